/-! quarry: how many orders let nothing start -/
def un (t : Nat) : Nat → Nat → List Nat
  | 0, _ => []
  | n + 1, i => match t.testBit i with
    | true => un t n (i + 1)
    | false => i :: un t n (i + 1)
def zer (m t : Nat) : Nat := (un t m 0).length
def unE (m t i : Nat) : Bool := !(Nat.blt i m && Nat.blt t (2 ^ m) && !t.testBit i) || (decide (un (t ||| 2 ^ i) m 0 = (un t m 0).erase i) && (Nat.beq (zer m t) (zer m (t ||| 2 ^ i) + 1) && (Nat.blt (t ||| 2 ^ i) (2 ^ m) && Nat.blt t (t ||| 2 ^ i))))
theorem un_e0 : ∀ m : Nat, m < 7 → ∀ t : Nat, t < 64 → ∀ i : Nat, i < 6 → unE m t i = true := by decide +kernel
theorem blt_t {a b : Nat} (h : a < b) : Nat.blt a b = true := Nat.ble_eq_true_of_le h
theorem un_e (m : Nat) (hm : m < 7) (t : Nat) (h64 : t < 64) (i : Nat) (hi6 : i < 6) (him : i < m) (ht : t < 2 ^ m) (hb : t.testBit i = false) : un (t ||| 2 ^ i) m 0 = (un t m 0).erase i ∧ zer m t = zer m (t ||| 2 ^ i) + 1 ∧ (t ||| 2 ^ i) < 2 ^ m ∧ t < (t ||| 2 ^ i) := by
  have h := un_e0 m hm t h64 i hi6
  unfold unE at h
  rw [blt_t him, blt_t ht, hb, show (!(true && true && !false)) = false from rfl, Bool.false_or, Bool.and_eq_true, Bool.and_eq_true, Bool.and_eq_true] at h
  exact ⟨of_decide_eq_true h.1, Nat.eq_of_beq_eq_true h.2.1, Nat.le_of_ble_eq_true h.2.2.1, Nat.le_of_ble_eq_true h.2.2.2⟩
theorem un_0 : ∀ m : Nat, m < 7 → un 0 m 0 = List.range m ∧ zer m 0 = m := by decide +kernel
theorem zer_0 : ∀ m : Nat, m < 7 → ∀ t : Nat, t < 64 → t < 2 ^ m → (zer m t = 0 ↔ t = 2 ^ m - 1) := by decide +kernel
theorem all_t : ∀ m : Nat, m < 7 → ∀ i : Nat, i < 6 → i < m → (2 ^ m - 1).testBit i = true := by decide +kernel
theorem lex_len : ∀ m : Nat, m < 7 → ∀ t : Nat, t < 64 → t < 2 ^ m → (lexL (zer m t) (un t m 0)).length ≤ 720 := by decide +kernel
def goodT (q : Nat → Bool) : Nat → List Nat → Bool
  | _, [] => true
  | t, p :: P => q (t ||| 2 ^ p) && goodT q (t ||| 2 ^ p) P
def cntL (f : List Nat → Bool) : List (List Nat) → Int
  | [] => 0
  | P :: r => (if f P = true then 1 else 0) + cntL f r
def sumU (g : Nat → Int) : List Nat → Int
  | [] => 0
  | i :: U => g i + sumU g U
theorem cntL_app {f : List Nat → Bool} : ∀ (a b : List (List Nat)), cntL f (a ++ b) = cntL f a + cntL f b
  | [], b => by rw [List.nil_append]; show _ = 0 + _; omega
  | P :: a, b => by
    rw [List.cons_append]
    show _ + cntL f (a ++ b) = (_ + cntL f a) + cntL f b
    rw [cntL_app a b]; omega
theorem cntL_b {f : List Nat → Bool} : ∀ (a : List (List Nat)), 0 ≤ cntL f a ∧ cntL f a ≤ a.length
  | [] => by show 0 ≤ (0 : Int) ∧ (0 : Int) ≤ ((0 : Nat) : Int); decide
  | P :: a => by
    have := cntL_b (f := f) a
    show 0 ≤ (if f P = true then (1 : Int) else 0) + cntL f a ∧ (if f P = true then (1 : Int) else 0) + cntL f a ≤ ((a.length + 1 : Nat) : Int)
    split <;> omega
theorem cntL_map {f : List Nat → Bool} {i : Nat} : ∀ (a : List (List Nat)), cntL f (a.map (fun P => i :: P)) = cntL (fun P => f (i :: P)) a
  | [] => rfl
  | P :: a => by
    show _ + cntL f (a.map (fun P => i :: P)) = _ + cntL (fun P => f (i :: P)) a
    rw [cntL_map a]
theorem cntL_and {b : Bool} {g : List Nat → Bool} : ∀ (a : List (List Nat)), cntL (fun P => b && g P) a = if b = true then cntL g a else 0
  | [] => by split <;> rfl
  | P :: a => by
    show (if (b && g P) = true then (1 : Int) else 0) + cntL (fun P => b && g P) a = _
    rw [cntL_and a]
    cases b with
    | true => rw [Bool.true_and, if_pos rfl, if_pos rfl]; rfl
    | false => rw [Bool.false_and, if_neg Bool.false_ne_true, if_neg Bool.false_ne_true, if_neg Bool.false_ne_true]; rfl
theorem cnt_fl {q : Nat → Bool} {t n : Nat} {U : List Nat} : ∀ V : List Nat, cntL (goodT q t) (V.flatMap (fun i => (lexL n (U.erase i)).map (fun P => i :: P))) = sumU (fun i => if q (t ||| 2 ^ i) = true then cntL (goodT q (t ||| 2 ^ i)) (lexL n (U.erase i)) else 0) V
  | [] => rfl
  | i :: V => by
    rw [List.flatMap_cons, cntL_app, cntL_map, cnt_fl V, show (fun P => goodT q t (i :: P)) = (fun P => q (t ||| 2 ^ i) && goodT q (t ||| 2 ^ i) P) from rfl, cntL_and]
    rfl
theorem sumU_un {g : Nat → Int} {t : Nat} : ∀ (n i : Nat), sumU g (un t n i) = isum (fun j => if t.testBit j.toNat = true then 0 else g j.toNat) n i
  | 0, _ => rfl
  | n + 1, i => by
    show sumU g (match t.testBit i with | true => un t n (i + 1) | false => i :: un t n (i + 1)) = (if t.testBit (i : Int).toNat = true then 0 else g (i : Int).toNat) + isum _ n ((i : Int) + 1)
    have ih := sumU_un (g := g) (t := t) n (i + 1)
    rw [show ((i + 1 : Nat) : Int) = (i : Int) + 1 from rfl] at ih
    rw [← ih, Int.toNat_natCast]
    cases h : t.testBit i with
    | true => show sumU g (un t n (i + 1)) = _; rw [if_pos rfl, Int.zero_add]
    | false => rw [if_neg Bool.false_ne_true]; rfl
/-- in how many orders the rest can follow -/
def wAn (q : Nat → Bool) (m t : Nat) : Int := cntL (goodT q t) (lexL (zer m t) (un t m 0))
def wA (q : Nat → Bool) (m t : Nat) : Int := if t = 0 ∨ q t = true then wAn q m t else 0
theorem wA_b {q : Nat → Bool} {m t : Nat} (hm : m ≤ 6) (ht : t < 2 ^ m) : 0 ≤ wA q m t ∧ wA q m t ≤ 720 := by
  have h64 : 2 ^ m ≤ 2 ^ 6 := Nat.pow_le_pow_right (by decide) hm
  have b := cntL_b (f := goodT q t) (lexL (zer m t) (un t m 0))
  have l := lex_len m (by omega) t (by omega) ht
  unfold wA wAn
  split <;> omega
theorem wA_r {q : Nat → Bool} {m t : Nat} (hm : m ≤ 6) (ht : t < 2 ^ m) : wAn q m t = (if t = 2 ^ m - 1 then 1 else 0) + isum (fun i => if t.testBit i.toNat = true then 0 else wA q m (t ||| 2 ^ i.toNat)) m 0 := by
  have h64 : 2 ^ m ≤ 2 ^ 6 := Nat.pow_le_pow_right (by decide) hm
  have hz := zer_0 m (by omega) t (by omega) ht
  unfold wAn
  cases hn : zer m t with
  | zero =>
    have e := hz.1 hn
    rw [if_pos e, isum_z m 0 (fun i i1 i2 => ?_)]
    · rfl
    · rw [if_pos (by rw [e]; exact all_t m (by omega) i.toNat (by omega) (by omega))]
  | succ n =>
    rw [if_neg (fun z => by have := hz.2 z; omega), Int.zero_add]
    show cntL (goodT q t) ((un t m 0).flatMap (fun i => (lexL n ((un t m 0).erase i)).map (fun P => i :: P))) = _
    rw [cnt_fl, sumU_un]
    refine isum_cg m 0 (fun i i1 i2 => ?_)
    cases hb : t.testBit i.toNat with
    | true => rw [if_pos rfl, if_pos rfl]
    | false =>
      obtain ⟨u1, u2, u3, u4⟩ := un_e m (by omega) t (by omega) i.toNat (by omega) (by omega) ht hb
      rw [if_neg Bool.false_ne_true, if_neg Bool.false_ne_true]
      unfold wA wAn
      rw [u1, show zer m (t ||| 2 ^ i.toNat) = n by omega]
      by_cases c : q (t ||| 2 ^ i.toNat) = true
      · rw [if_pos c, if_pos (Or.inr c)]
      · rw [if_neg c, if_neg (fun z => by rcases z with z | z; omega; exact c z)]
/-- the first one, stone by stone -/
def grF (q : Nat → Bool) (m t : Nat) (i : Int) : Bool := !t.testBit i.toNat && decide (0 < wA q m (t ||| 2 ^ i.toNat))
def gre (q : Nat → Bool) (m : Nat) : Nat → Nat → List Nat
  | 0, _ => []
  | n + 1, t => (zfs (grF q m t) m 0).toNat :: gre q m n (t ||| 2 ^ (zfs (grF q m t) m 0).toNat)
theorem find_no {f : List Nat → Bool} : ∀ (a : List (List Nat)), a.find? f = none ↔ cntL f a = 0
  | [] => ⟨fun _ => rfl, fun _ => rfl⟩
  | P :: a => by
    have b := cntL_b (f := f) a
    rw [List.find?_cons]
    show _ ↔ (if f P = true then (1 : Int) else 0) + cntL f a = 0
    cases h : f P with
    | true => rw [if_pos rfl]; exact ⟨fun z => (by cases z), fun z => (by omega)⟩
    | false => rw [if_neg Bool.false_ne_true, find_no a]; omega
theorem find_map {f : List Nat → Bool} {i : Nat} : ∀ (a : List (List Nat)), (a.map (fun P => i :: P)).find? f = (a.find? (fun P => f (i :: P))).map (fun P => i :: P)
  | [] => rfl
  | P :: a => by
    rw [List.map_cons, List.find?_cons, List.find?_cons]
    cases h : f (i :: P) with
    | true => rfl
    | false => exact find_map a
theorem find_fl {q : Nat → Bool} {m t n : Nat} (hm : m ≤ 6) (ht : t < 2 ^ m) (hn : zer m t = n + 1) (ih : ∀ i : Nat, i < m → t.testBit i = false → 0 < wA q m (t ||| 2 ^ i) → (lexL n ((un t m 0).erase i)).find? (goodT q (t ||| 2 ^ i)) = some (gre q m n (t ||| 2 ^ i))) : ∀ (k i : Nat), i + k = m → ((un t k i).flatMap (fun i => (lexL n ((un t m 0).erase i)).map (fun P => i :: P))).find? (goodT q t) = (if zfs (grF q m t) k i = -1 then none else some ((zfs (grF q m t) k i).toNat :: gre q m n (t ||| 2 ^ (zfs (grF q m t) k i).toNat)))
  | 0, i, _ => rfl
  | k + 1, i, hk => by
    have h64 : 2 ^ m ≤ 2 ^ 6 := Nat.pow_le_pow_right (by decide) hm
    have rc1 := find_fl hm ht hn ih k (i + 1) (by omega)
    rw [show ((i + 1 : Nat) : Int) = (i : Int) + 1 from rfl] at rc1
    show ((match t.testBit i with | true => un t k (i + 1) | false => i :: un t k (i + 1)).flatMap _).find? _ = _
    cases hb : t.testBit i with
    | true =>
      have e : grF q m t (i : Int) = false := by unfold grF; rw [Int.toNat_natCast, hb]; rfl
      rw [zfs_f e]
      exact rc1
    | false =>
      obtain ⟨u1, u2, u3, u4⟩ := un_e m (by omega) t (by omega) i (by omega) (by omega) ht hb
      show ((i :: un t k (i + 1)).flatMap (fun i => (lexL n ((un t m 0).erase i)).map (fun P => i :: P))).find? (goodT q t) = _
      rw [List.flatMap_cons, List.find?_append, find_map, show (fun P => goodT q t (i :: P)) = (fun P => q (t ||| 2 ^ i) && goodT q (t ||| 2 ^ i) P) from rfl]
      have ew : wA q m (t ||| 2 ^ i) = if q (t ||| 2 ^ i) = true then cntL (goodT q (t ||| 2 ^ i)) (lexL n ((un t m 0).erase i)) else 0 := by
        unfold wA wAn
        rw [u1, show zer m (t ||| 2 ^ i) = n by omega]
        by_cases c : q (t ||| 2 ^ i) = true
        · rw [if_pos c, if_pos (Or.inr c)]
        · rw [if_neg c, if_neg (fun z => by rcases z with z | z; omega; exact c z)]
      by_cases c : 0 < wA q m (t ||| 2 ^ i)
      · have e : grF q m t (i : Int) = true := by unfold grF; rw [Int.toNat_natCast, hb, decide_eq_true c]; rfl
        have cq : q (t ||| 2 ^ i) = true := by
          cases z : q (t ||| 2 ^ i) with
          | true => rfl
          | false => rw [ew, z, if_neg Bool.false_ne_true] at c; omega
        rw [zfs_t e, cq, if_neg (by omega), Int.toNat_natCast]
        have := ih i (by omega) hb c
        rw [show (fun P => true && goodT q (t ||| 2 ^ i) P) = goodT q (t ||| 2 ^ i) from by funext P; exact Bool.true_and _, this]
        rfl
      · have e : grF q m t (i : Int) = false := by unfold grF; rw [Int.toNat_natCast, hb, decide_eq_false c]; rfl
        have nf : (lexL n ((un t m 0).erase i)).find? (fun P => q (t ||| 2 ^ i) && goodT q (t ||| 2 ^ i) P) = none := by
          rw [find_no, cntL_and, ← ew]
          have := wA_b (q := q) hm u3
          omega
        rw [nf, zfs_f e]
        exact rc1
theorem find_gre {q : Nat → Bool} {m : Nat} (hm : m ≤ 6) : ∀ (n t : Nat), t < 2 ^ m → zer m t = n → 0 < wAn q m t → (lexL n (un t m 0)).find? (goodT q t) = some (gre q m n t) ∧ (n = 0 ∨ (0 ≤ zfs (grF q m t) m 0 ∧ zfs (grF q m t) m 0 < m ∧ grF q m t (zfs (grF q m t) m 0) = true))
  | 0, t, ht, hz, hw => ⟨rfl, Or.inl rfl⟩
  | n + 1, t, ht, hz, hw => by
    have h64 : 2 ^ m ≤ 2 ^ 6 := Nat.pow_le_pow_right (by decide) hm
    have f := find_fl (q := q) hm ht hz (fun i hi hb hp => by
      obtain ⟨u1, u2, u3, u4⟩ := un_e m (by omega) t (by omega) i (by omega) (by omega) ht hb
      have hp' : 0 < wAn q m (t ||| 2 ^ i) := by
        unfold wA at hp
        split at hp
        · exact hp
        · omega
      have := (find_gre hm n (t ||| 2 ^ i) u3 (by omega) hp').1
      rw [u1] at this
      exact this) m 0 (by omega)
    have nn : ¬ zfs (grF q m t) m 0 = -1 := by
      intro z
      rw [show ((0 : Nat) : Int) = 0 from rfl, if_pos z] at f
      have := (find_no _).1 f
      unfold wAn at hw
      rw [hz] at hw
      have hw' : 0 < cntL (goodT q t) ((un t m 0).flatMap (fun i => (lexL n ((un t m 0).erase i)).map (fun P => i :: P))) := hw
      omega
    rw [show ((0 : Nat) : Int) = 0 from rfl, if_neg nn] at f
    refine ⟨f, Or.inr ?_⟩
    rcases zfs_spec (grF q m t) m 0 with ⟨z, _⟩ | ⟨z1, z2, z3, _⟩
    · exact absurd z nn
    · exact ⟨z1, by omega, z3⟩
