/-! crew: what is looked for. A plan: stones by their numbers in the list, in their order, each with its men -/
abbrev zZ : Type := List (Nat × Int)
def lk : zZ → Nat → Int
  | [], _ => 0
  | z :: Z, k => if z.1 = k then z.2 else lk Z k
def sucB (σ : zH) (o : Int) (L : List Int) (st : zH) : Bool := L.all (fun s => decide (st 1 s ≠ -1 ∧ σ 6 (st 1 s) = o))
def lvs (σ : zH) (o : Int) (L : List Int) : Nat → List Nat → zH → List zZ
  | 0, _, st => match sucB σ o L st with
    | true => [[]]
    | false => []
  | n + 1, U, st => U.flatMap (fun i => (lvs σ o L n (U.erase i) st).map (fun Z => (i, (0 : Int)) :: Z) ++ (if 1 ≤ fewA σ st (L.getD i 0) ∧ fewA σ st (L.getD i 0) ≤ 9 then (lvs σ o L n (U.erase i) (drv σ st (L.getD i 0) (10 * fewA σ st (L.getD i 0))).1).map (fun Z => (i, fewA σ st (L.getD i 0)) :: Z) else []))
def okR (σ : zH) (o : Int) (L : List Int) (ν : Nat → Int) : List Nat → zH → Bool
  | [], st => sucB σ o L st
  | p :: P, st => okR σ o L ν P (if 0 < ν p then (drv σ st (L.getD p 0) (10 * ν p)).1 else st)
def cok (σ : zH) (o : Int) (L : List Int) (ν : Nat → Int) : List Nat → zH → Bool
  | [], st => sucB σ o L st
  | p :: P, st => if ν p = 0 then cok σ o L ν P st else decide (ν p = fewA σ st (L.getD p 0) ∧ 1 ≤ ν p ∧ ν p ≤ 9) && cok σ o L ν P (drv σ st (L.getD p 0) (10 * ν p)).1
def selZ (ν : Nat → Int) (Z : zZ) : Bool := Z.all (fun z => decide (ν z.1 = z.2))
theorem lvs_fl {σ : zH} {o : Int} {L : List Int} {ν : Nat → Int} {n : Nat} {U : List Nat} {st : zH} (ih : ∀ U st, (lvs σ o L n U st).filter (selZ ν) = ((lexL n U).filter (fun P => cok σ o L ν P st)).map (fun P => P.map (fun p => (p, ν p)))) : ∀ V : List Nat, (V.flatMap (fun i => (lvs σ o L n (U.erase i) st).map (fun Z => (i, (0 : Int)) :: Z) ++ (if 1 ≤ fewA σ st (L.getD i 0) ∧ fewA σ st (L.getD i 0) ≤ 9 then (lvs σ o L n (U.erase i) (drv σ st (L.getD i 0) (10 * fewA σ st (L.getD i 0))).1).map (fun Z => (i, fewA σ st (L.getD i 0)) :: Z) else []))).filter (selZ ν) = ((V.flatMap (fun i => (lexL n (U.erase i)).map (fun P => i :: P))).filter (fun P => cok σ o L ν P st)).map (fun P => P.map (fun p => (p, ν p)))
  | [] => rfl
  | i :: V => by
    rw [List.flatMap_cons, List.flatMap_cons, List.filter_append, List.filter_append (p := fun P => cok σ o L ν P st), List.map_append, lvs_fl ih V]
    congr 1
    have eA : ∀ (x : Int) (A : List zZ), (A.map (fun Z => (i, x) :: Z)).filter (selZ ν) = if ν i = x then (A.filter (selZ ν)).map (fun Z => (i, x) :: Z) else [] := by
      intro x A
      rw [List.filter_map]
      by_cases c : ν i = x
      · rw [if_pos c]
        congr 1
        refine List.filter_congr (fun Z _ => ?_)
        show (decide (ν i = x) && selZ ν Z) = selZ ν Z
        rw [decide_eq_true c, Bool.true_and]
      · rw [if_neg c]
        have : (List.filter (selZ ν ∘ fun Z => (i, x) :: Z) A) = [] := by
          rw [List.filter_eq_nil_iff]
          intro Z _
          show ¬ (decide (ν i = x) && selZ ν Z) = true
          rw [decide_eq_false c, Bool.false_and]
          exact Bool.false_ne_true
        rw [this]
        rfl
    rw [List.filter_append, eA, List.filter_map]
    have eR : List.filter ((fun P => cok σ o L ν P st) ∘ fun P => i :: P) (lexL n (U.erase i)) = List.filter (fun P => cok σ o L ν (i :: P) st) (lexL n (U.erase i)) := rfl
    rw [eR]
    by_cases c0 : ν i = 0
    · have e1 : List.filter (fun P => cok σ o L ν (i :: P) st) (lexL n (U.erase i)) = List.filter (fun P => cok σ o L ν P st) (lexL n (U.erase i)) := List.filter_congr (fun P _ => by rw [cok, if_pos c0])
      have e2 : ((if 1 ≤ fewA σ st (L.getD i 0) ∧ fewA σ st (L.getD i 0) ≤ 9 then (lvs σ o L n (U.erase i) (drv σ st (L.getD i 0) (10 * fewA σ st (L.getD i 0))).1).map (fun Z => (i, fewA σ st (L.getD i 0)) :: Z) else []).filter (selZ ν)) = [] := by
        by_cases c1 : 1 ≤ fewA σ st (L.getD i 0) ∧ fewA σ st (L.getD i 0) ≤ 9
        · rw [if_pos c1, eA, if_neg (by omega)]
        · rw [if_neg c1]; rfl
      rw [if_pos c0, e1, e2, List.append_nil, ih, List.map_map, List.map_map]
      refine List.map_congr_left (fun P _ => ?_)
      show (i, (0 : Int)) :: P.map (fun p => (p, ν p)) = (i :: P).map (fun p => (p, ν p))
      rw [List.map_cons, c0]
    · rw [if_neg c0, List.nil_append]
      by_cases c1 : ν i = fewA σ st (L.getD i 0) ∧ 1 ≤ ν i ∧ ν i ≤ 9
      · have e1 : List.filter (fun P => cok σ o L ν (i :: P) st) (lexL n (U.erase i)) = List.filter (fun P => cok σ o L ν P (drv σ st (L.getD i 0) (10 * ν i)).1) (lexL n (U.erase i)) := List.filter_congr (fun P _ => by rw [cok, if_neg c0, decide_eq_true c1, Bool.true_and])
        rw [if_pos (by omega), eA, if_pos c1.1, e1, ih, List.map_map, List.map_map, ← c1.1]
        refine List.map_congr_left (fun P _ => ?_)
        show (i, ν i) :: P.map (fun p => (p, ν p)) = (i :: P).map (fun p => (p, ν p))
        rw [List.map_cons]
      · have e1 : List.filter (fun P => cok σ o L ν (i :: P) st) (lexL n (U.erase i)) = [] := by
          rw [List.filter_eq_nil_iff]
          intro P _
          rw [cok, if_neg c0, decide_eq_false c1, Bool.false_and]
          exact Bool.false_ne_true
        rw [e1]
        by_cases c2 : 1 ≤ fewA σ st (L.getD i 0) ∧ fewA σ st (L.getD i 0) ≤ 9
        · rw [if_pos c2, eA, if_neg (fun z => c1 ⟨z, by omega, by omega⟩)]
          rfl
        · rw [if_neg c2]; rfl
theorem lvs_sel {σ : zH} {o : Int} {L : List Int} {ν : Nat → Int} : ∀ (n : Nat) (U : List Nat) (st : zH), (lvs σ o L n U st).filter (selZ ν) = ((lexL n U).filter (fun P => cok σ o L ν P st)).map (fun P => P.map (fun p => (p, ν p)))
  | 0, U, st => by
    show (match sucB σ o L st with | true => [[]] | false => []).filter (selZ ν) = ([[]].filter (fun P => cok σ o L ν P st)).map _
    have e : cok σ o L ν [] st = sucB σ o L st := rfl
    cases h : sucB σ o L st with
    | true => rw [List.filter_cons_of_pos (p := fun P => cok σ o L ν P st) (show cok σ o L ν [] st = true from h)]; rfl
    | false => rw [List.filter_cons_of_neg (p := fun P => cok σ o L ν P st) (show ¬ cok σ o L ν [] st = true from by rw [e, h]; exact Bool.false_ne_true)]; rfl
  | n + 1, U, st => lvs_fl (lvs_sel n) U
theorem lvs_in {σ : zH} {o : Int} {L : List Int} : ∀ (n : Nat) (U : List Nat) (st : zH), ∀ Z ∈ lvs σ o L n U st, Z.map (fun z => z.1) ∈ lexL n U ∧ ∀ z ∈ Z, 0 ≤ z.2 ∧ z.2 ≤ 9
  | 0, U, st, Z, hZ => by
    have hZ' : Z ∈ (match sucB σ o L st with | true => [[]] | false => []) := hZ
    cases h : sucB σ o L st with
    | true =>
      rw [h] at hZ'
      rw [List.mem_singleton.1 hZ']
      exact ⟨List.mem_singleton.2 rfl, fun z hz => by cases hz⟩
    | false => rw [h] at hZ'; cases hZ'
  | n + 1, U, st, Z, hZ => by
    obtain ⟨i, hi, hz⟩ := List.mem_flatMap.1 hZ
    show Z.map (fun z => z.1) ∈ U.flatMap _ ∧ _
    rcases List.mem_append.1 hz with h | h
    · obtain ⟨Y, hY, rfl⟩ := List.mem_map.1 h
      obtain ⟨a, b⟩ := lvs_in n _ _ Y hY
      refine ⟨List.mem_flatMap.2 ⟨i, hi, List.mem_map.2 ⟨_, a, rfl⟩⟩, fun z hz => ?_⟩
      rcases List.mem_cons.1 hz with e | e
      · rw [e]; exact ⟨show (0 : Int) ≤ 0 by decide, show (0 : Int) ≤ 9 by decide⟩
      · exact b z e
    · by_cases c : 1 ≤ fewA σ st (L.getD i 0) ∧ fewA σ st (L.getD i 0) ≤ 9
      · rw [if_pos c] at h
        obtain ⟨Y, hY, rfl⟩ := List.mem_map.1 h
        obtain ⟨a, b⟩ := lvs_in n _ _ Y hY
        refine ⟨List.mem_flatMap.2 ⟨i, hi, List.mem_map.2 ⟨_, a, rfl⟩⟩, fun z hz => ?_⟩
        rcases List.mem_cons.1 hz with e | e
        · rw [e]; exact ⟨by show (0 : Int) ≤ fewA σ st (L.getD i 0); omega, c.2⟩
        · exact b z e
      · rw [if_neg c] at h; cases h
/-- sums and numbers of men -/
def smA (μ : Nat → Int) : Nat → Nat → Int
  | 0, _ => 0
  | n + 1, k => μ k + smA μ n (k + 1)
def nmA (μ : Nat → Int) : Nat → Nat → Int → Int
  | 0, _, x => x
  | n + 1, k, x => nmA μ n (k + 1) (10 * x + μ k)
abbrev sm (m : Nat) (μ : Nat → Int) : Int := smA μ m 0
abbrev nmb (m : Nat) (μ : Nat → Int) : Int := nmA μ m 0 0
def keyM (m : Nat) (μ : Nat → Int) : Int := 1000 * sm m μ + nmb m μ
def digs (m : Nat) (μ : Nat → Int) : Prop := ∀ k, k < m → 0 ≤ μ k ∧ μ k ≤ 9
def fwB (μ ν : Nat → Int) : Nat → Nat → Bool
  | 0, _ => false
  | n + 1, k => if μ k = ν k then fwB μ ν n (k + 1) else decide (μ k < ν k)
theorem m3 {m : Nat} (h : 1 ≤ m ∧ m ≤ 3) : m = 1 ∨ m = 2 ∨ m = 3 := by omega
theorem sm_1 {μ : Nat → Int} : sm 1 μ = μ 0 + 0 := rfl
theorem sm_2 {μ : Nat → Int} : sm 2 μ = μ 0 + (μ 1 + 0) := rfl
theorem sm_3 {μ : Nat → Int} : sm 3 μ = μ 0 + (μ 1 + (μ 2 + 0)) := rfl
theorem nm_1 {μ : Nat → Int} : nmb 1 μ = 10 * 0 + μ 0 := rfl
theorem nm_2 {μ : Nat → Int} : nmb 2 μ = 10 * (10 * 0 + μ 0) + μ 1 := rfl
theorem nm_3 {μ : Nat → Int} : nmb 3 μ = 10 * (10 * (10 * 0 + μ 0) + μ 1) + μ 2 := rfl
theorem nm_b {m : Nat} {μ : Nat → Int} (hm : 1 ≤ m ∧ m ≤ 3) (d : digs m μ) : (0 ≤ nmb m μ ∧ nmb m μ < ((10 ^ m : Nat) : Int)) ∧ 0 ≤ sm m μ ∧ sm m μ ≤ 27 := by
  rcases m3 hm with e | e | e <;> subst e
  · have := d 0 (by decide)
    rw [nm_1, sm_1, show ((10 ^ 1 : Nat) : Int) = 10 from rfl]; omega
  · have := d 0 (by decide)
    have := d 1 (by decide)
    rw [nm_2, sm_2, show ((10 ^ 2 : Nat) : Int) = 100 from rfl]; omega
  · have := d 0 (by decide)
    have := d 1 (by decide)
    have := d 2 (by decide)
    rw [nm_3, sm_3, show ((10 ^ 3 : Nat) : Int) = 1000 from rfl]; omega
theorem p10 {m : Nat} (hm : m ≤ 3) : 10 ^ m ≤ 1000 := Nat.le_trans (Nat.pow_le_pow_right (by decide) hm) (by decide)
theorem nm_inj {m : Nat} {μ ν : Nat → Int} (hm : 1 ≤ m ∧ m ≤ 3) (d : digs m μ) (e : digs m ν) (h : nmb m μ = nmb m ν) : ∀ k, k < m → μ k = ν k := by
  intro k hk
  rcases m3 hm with q | q | q <;> subst q
  · have := d 0 (by decide)
    have := e 0 (by decide)
    rw [nm_1, nm_1] at h
    have ek : k = 0 := by omega
    rw [ek]; omega
  · have := d 0 (by decide)
    have := d 1 (by decide)
    have := e 0 (by decide)
    have := e 1 (by decide)
    rw [nm_2, nm_2] at h
    have ek : k = 0 ∨ k = 1 := by omega
    rcases ek with ek | ek <;> rw [ek] <;> omega
  · have := d 0 (by decide)
    have := d 1 (by decide)
    have := d 2 (by decide)
    have := e 0 (by decide)
    have := e 1 (by decide)
    have := e 2 (by decide)
    rw [nm_3, nm_3] at h
    have ek : k = 0 ∨ k = 1 ∨ k = 2 := by omega
    rcases ek with ek | ek | ek <;> rw [ek] <;> omega
theorem key_inj {m : Nat} {μ ν : Nat → Int} (hm : 1 ≤ m ∧ m ≤ 3) (d : digs m μ) (e : digs m ν) (h : keyM m μ = keyM m ν) : ∀ k, k < m → μ k = ν k := by
  have a := nm_b hm d
  have b := nm_b hm e
  have p := p10 hm.2
  unfold keyM at h
  exact nm_inj hm d e (by omega)
theorem smA_cg {μ ν : Nat → Int} : ∀ (n k : Nat), (∀ j, k ≤ j → j < k + n → μ j = ν j) → smA μ n k = smA ν n k
  | 0, _, _ => rfl
  | n + 1, k, h => by rw [smA, smA, h k (by omega) (by omega), smA_cg n (k + 1) (fun j a b => h j (by omega) (by omega))]
theorem nmA_cg {μ ν : Nat → Int} : ∀ (n k : Nat) (x : Int), (∀ j, k ≤ j → j < k + n → μ j = ν j) → nmA μ n k x = nmA ν n k x
  | 0, _, _, _ => rfl
  | n + 1, k, x, h => by rw [nmA, nmA, h k (by omega) (by omega), nmA_cg n (k + 1) _ (fun j a b => h j (by omega) (by omega))]
theorem key_cg {m : Nat} {μ ν : Nat → Int} (h : ∀ k, k < m → μ k = ν k) : keyM m μ = keyM m ν := by
  unfold keyM
  rw [show sm m μ = sm m ν from smA_cg m 0 (fun j _ b => h j (by omega)), show nmb m μ = nmb m ν from nmA_cg m 0 0 (fun j _ b => h j (by omega))]
theorem fw_iff {m : Nat} {μ ν : Nat → Int} (hm : 1 ≤ m ∧ m ≤ 3) (d : digs m μ) (e : digs m ν) : fwB μ ν m 0 = true ↔ nmb m μ < nmb m ν := by
  rcases m3 hm with q | q | q <;> subst q
  · have := d 0 (by decide)
    have := e 0 (by decide)
    rw [nm_1, nm_1]
    show (if μ 0 = ν 0 then false else decide (μ 0 < ν 0)) = true ↔ _
    by_cases c0 : μ 0 = ν 0
    · rw [if_pos c0]; exact ⟨fun z => (by cases z), fun z => (by omega)⟩
    · rw [if_neg c0, decide_eq_true_iff]; omega
  · have := d 0 (by decide)
    have := d 1 (by decide)
    have := e 0 (by decide)
    have := e 1 (by decide)
    rw [nm_2, nm_2]
    show (if μ 0 = ν 0 then (if μ 1 = ν 1 then false else decide (μ 1 < ν 1)) else decide (μ 0 < ν 0)) = true ↔ _
    by_cases c0 : μ 0 = ν 0
    · rw [if_pos c0]
      by_cases c1 : μ 1 = ν 1
      · rw [if_pos c1]; exact ⟨fun z => (by cases z), fun z => (by omega)⟩
      · rw [if_neg c1, decide_eq_true_iff]; omega
    · rw [if_neg c0, decide_eq_true_iff]; omega
  · have := d 0 (by decide)
    have := d 1 (by decide)
    have := d 2 (by decide)
    have := e 0 (by decide)
    have := e 1 (by decide)
    have := e 2 (by decide)
    rw [nm_3, nm_3]
    show (if μ 0 = ν 0 then (if μ 1 = ν 1 then (if μ 2 = ν 2 then false else decide (μ 2 < ν 2)) else decide (μ 1 < ν 1)) else decide (μ 0 < ν 0)) = true ↔ _
    by_cases c0 : μ 0 = ν 0
    · rw [if_pos c0]
      by_cases c1 : μ 1 = ν 1
      · rw [if_pos c1]
        by_cases c2 : μ 2 = ν 2
        · rw [if_pos c2]; exact ⟨fun z => (by cases z), fun z => (by omega)⟩
        · rw [if_neg c2, decide_eq_true_iff]; omega
      · rw [if_neg c1, decide_eq_true_iff]; omega
    · rw [if_neg c0, decide_eq_true_iff]; omega
/-- the best of a list, the first of like ones -/
def bst (m : Nat) (B : Option zZ) (Z : zZ) : Option zZ := match B with
  | none => some Z
  | some Y => if keyM m (lk Z) < keyM m (lk Y) then some Z else some Y
theorem bst_fold {m : Nat} : ∀ (A : List zZ) {X Y : zZ}, A.foldl (bst m) (some X) = some Y → keyM m (lk Y) ≤ keyM m (lk X) ∧ (∀ Z ∈ A, keyM m (lk Y) ≤ keyM m (lk Z)) ∧ (keyM m (lk Y) = keyM m (lk X) → Y = X) ∧ (keyM m (lk Y) < keyM m (lk X) → A.find? (fun Z => decide (keyM m (lk Z) = keyM m (lk Y))) = some Y)
  | [], X, Y, h => by
    have e : X = Y := Option.some.inj h
    subst e
    exact ⟨Int.le_refl _, fun Z hZ => (by cases hZ), fun _ => rfl, fun z => (by omega)⟩
  | Z :: A, X, Y, h => by
    have h' : A.foldl (bst m) (if keyM m (lk Z) < keyM m (lk X) then some Z else some X) = some Y := h
    by_cases c : keyM m (lk Z) < keyM m (lk X)
    · rw [if_pos c] at h'
      obtain ⟨a1, a2, a3, a4⟩ := bst_fold A h'
      refine ⟨by omega, fun W hW => ?_, fun z => by omega, fun _ => ?_⟩
      · rcases List.mem_cons.1 hW with q | q
        · rw [q]; exact a1
        · exact a2 W q
      · rw [List.find?_cons]
        by_cases e : keyM m (lk Z) = keyM m (lk Y)
        · rw [decide_eq_true e, a3 e.symm]
        · rw [decide_eq_false e]; exact a4 (by omega)
    · rw [if_neg c] at h'
      obtain ⟨a1, a2, a3, a4⟩ := bst_fold A h'
      refine ⟨a1, fun W hW => ?_, a3, fun z => ?_⟩
      · rcases List.mem_cons.1 hW with q | q
        · rw [q]; omega
        · exact a2 W q
      · rw [List.find?_cons, decide_eq_false (by omega)]
        exact a4 z
theorem bst_top {m : Nat} {A : List zZ} {Y : zZ} (h : A.foldl (bst m) none = some Y) : (∀ Z ∈ A, keyM m (lk Y) ≤ keyM m (lk Z)) ∧ A.find? (fun Z => decide (keyM m (lk Z) = keyM m (lk Y))) = some Y := by
  cases A with
  | nil => cases h
  | cons X A =>
    have h' : A.foldl (bst m) (some X) = some Y := h
    obtain ⟨a1, a2, a3, a4⟩ := bst_fold A h'
    refine ⟨fun W hW => ?_, ?_⟩
    · rcases List.mem_cons.1 hW with q | q
      · rw [q]; exact a1
      · exact a2 W q
    · rw [List.find?_cons]
      by_cases e : keyM m (lk X) = keyM m (lk Y)
      · rw [decide_eq_true e, a3 e.symm]
      · rw [decide_eq_false e]; exact a4 (by omega)
theorem bst_some {m : Nat} : ∀ (A : List zZ) (X : zZ), ∃ Y, A.foldl (bst m) (some X) = some Y
  | [], X => ⟨X, rfl⟩
  | Z :: A, X => by
    show ∃ Y, A.foldl (bst m) (if keyM m (lk Z) < keyM m (lk X) then some Z else some X) = some Y
    split
    · exact bst_some A Z
    · exact bst_some A X
/-- fewer men would do, unless each has just the fewest who start it -/
def upN (ν : Nat → Int) (q : Nat) (v : Int) : Nat → Int := fun k => if k = q then v else ν k
theorem okR_cg {σ : zH} {o : Int} {L : List Int} {μ ν : Nat → Int} : ∀ (P : List Nat) (st : zH), (∀ p ∈ P, μ p = ν p) → okR σ o L μ P st = okR σ o L ν P st
  | [], _, _ => rfl
  | p :: P, st, h => by
    rw [okR, okR, h p (List.mem_cons_self ..)]
    exact okR_cg P _ (fun q hq => h q (List.mem_cons_of_mem _ hq))
theorem cok_okR {σ : zH} {o : Int} {L : List Int} {ν : Nat → Int} : ∀ (P : List Nat) (st : zH), cok σ o L ν P st = true → okR σ o L ν P st = true
  | [], _, h => h
  | p :: P, st, h => by
    rw [cok] at h
    rw [okR]
    by_cases c : ν p = 0
    · rw [if_pos c] at h
      rw [if_neg (by omega)]
      exact cok_okR P st h
    · rw [if_neg c, Bool.and_eq_true] at h
      have := of_decide_eq_true h.1
      rw [if_pos (by omega)]
      exact cok_okR P _ h.2
theorem min1 {σ : zH} (w : WS σ) {o : Int} {L : List Int} (hL : ∀ j : Nat, j < L.length → 0 ≤ L.getD j 0 ∧ L.getD j 0 < nS σ) {ν : Nat → Int} (d : ∀ k, 0 ≤ ν k ∧ ν k ≤ 9) : ∀ (P : List Nat) (st : zH), P.Nodup → (∀ p ∈ P, p < L.length) → okR σ o L ν P st = true → cok σ o L ν P st = false → ∃ q ∈ P, ∃ v, (0 ≤ v ∧ v < ν q) ∧ okR σ o L (upN ν q v) P st = true
  | [], _, _, _, h1, h2 => by
    have a : sucB σ o L _ = true := h1
    have b : sucB σ o L _ = false := h2
    rw [a] at b; cases b
  | p :: P, st, hn, hp, h1, h2 => by
    rw [okR] at h1
    rw [cok] at h2
    have hn' := List.nodup_cons.1 hn
    have dp := d p
    have pL := hL p (hp p (List.mem_cons_self ..))
    have tl : ∀ v, ∀ x ∈ P, upN ν p v x = ν x := fun v x hx => by
      unfold upN
      rw [if_neg (fun z => hn'.1 (by rw [← z]; exact hx))]
    have hd : ∀ v, upN ν p v p = v := fun v => by unfold upN; rw [if_pos rfl]
    have low : ∀ st', okR σ o L ν P st' = true → cok σ o L ν P st' = false → (∀ v q, q ∈ P → (if 0 < upN ν q v p then (drv σ st (L.getD p 0) (10 * upN ν q v p)).1 else st) = st') → ∃ q ∈ p :: P, ∃ v, (0 ≤ v ∧ v < ν q) ∧ okR σ o L (upN ν q v) (p :: P) st = true := by
      intro st' a b e
      obtain ⟨q, hq, v, hv, r⟩ := min1 w hL d P st' hn'.2 (fun x hx => hp x (List.mem_cons_of_mem _ hx)) a b
      refine ⟨q, List.mem_cons_of_mem _ hq, v, hv, ?_⟩
      rw [okR, e v q hq]
      exact r
    have same : ∀ v q, q ∈ P → upN ν q v p = ν p := fun v q hq => by
      unfold upN
      rw [if_neg (fun z => hn'.1 (by rw [z]; exact hq))]
    by_cases c : ν p = 0
    · rw [if_pos c] at h2
      rw [if_neg (by omega)] at h1
      exact low st h1 h2 (fun v q hq => by rw [same v q hq, if_neg (by omega)])
    · rw [if_neg c] at h2
      rw [if_pos (by omega)] at h1
      by_cases c1 : ν p = fewA σ st (L.getD p 0) ∧ 1 ≤ ν p ∧ ν p ≤ 9
      · rw [decide_eq_true c1, Bool.true_and] at h2
        exact low _ h1 h2 (fun v q hq => by rw [same v q hq, if_pos (by omega)])
      · by_cases c2 : st 1 (L.getD p 0) ≠ -1 ∧ σ 2 (st 1 (L.getD p 0)) ≠ -1 ∧ σ 14 (L.getD p 0) < 10 * ν p + σ 3 (st 1 (L.getD p 0))
        · have iff := fun m hm => few_iff (m := m) w pL c2.1 c2.2.1 hm
          have f1 : 1 ≤ fewA σ st (L.getD p 0) := by
            unfold fewA
            rw [if_neg (fun z => by rcases z with z | z; exact c2.1 z; exact c2.2.1 z)]
            split <;> omega
          have f2 := (iff (ν p) (by omega)).1 c2
          refine ⟨p, List.mem_cons_self .., fewA σ st (L.getD p 0), ⟨by omega, ?_⟩, ?_⟩
          · by_cases z : ν p = fewA σ st (L.getD p 0)
            · exact absurd ⟨z, by omega, by omega⟩ c1
            · omega
          · rw [okR, hd, if_pos (by omega), drv_go ((iff _ f1).2 (Int.le_refl _)), ← drv_go c2, okR_cg P _ (tl _)]
            exact h1
        · rw [drv_stay c2] at h1
          refine ⟨p, List.mem_cons_self .., 0, ⟨by decide, by omega⟩, ?_⟩
          rw [okR, hd, if_neg (by decide), okR_cg P _ (tl _)]
          exact h1
