/-! how far tokens lie from each other -/
theorem tk_first {T : Int → Int} {n a : Int} : (tkAt T n a).2.1 = a := by
  unfold tkAt
  split
  · rfl
  split
  · rfl
  · rfl
theorem nx_first {T : Int → Int} {n e : Int} (he : e ≤ n) : e ≤ (nxT T n e).2.1 := by
  unfold nxT
  have r := rn_b (p := cB) (T := T) (n := n) (n - e).toNat e
  split
  · rw [tk_first]; exact r.1
  · exact he
theorem tk_L1 {T : Int → Int} {n : Int} {i : Nat} (hn : 0 ≤ n) (hi : i + 1 < (toks T n).length) (hk : (tkI (toks T n) i).1 ≠ 0) : (tkI (toks T n) i).2.1 + 1 ≤ (tkI (toks T n) (i + 1)).2.1 := by
  obtain ⟨b, b1, b2, e⟩ := toks_e (by omega) hk
  rw [toks_s hn hi, e, tk_first]
  have te := tk_end (T := T) b2
  have := nx_first (T := T) te.2
  omega
/-- a word's end is that of its letters -/
theorem tk_wd {T : Int → Int} {n a : Int} (hk : (tkAt T n a).1 = 1 ∨ (tkAt T n a).1 = 2) : (tkAt T n a).2.2.2.1 = a + ((tkAt T n a).2.2.2.2.length : Int) ∧ adjT T a = false ∧ ∀ j, a ≤ j → j < (tkAt T n a).2.2.2.1 → cL (T j) = true := by
  unfold tkAt at hk ⊢
  by_cases c1 : cL (T a) = true
  · rw [if_pos c1] at hk ⊢
    have r := rn_b (p := cL) (T := T) (n := n) (n - a).toNat a
    refine ⟨?_, ?_, fun j j1 j2 => rn_in (p := cL) (n - a).toNat a j j1 j2⟩
    · show rnE cL T n (n - a).toNat a = a + ((ltS T (rnE cL T n (n - a).toNat a - a).toNat a).length : Int)
      rw [ltS_len]
      omega
    · by_cases c2 : adjT T a = true
      · rw [if_pos c2] at hk
        exact absurd hk (show ¬ ((5 : Int) = 1 ∨ (5 : Int) = 2) by decide)
      · exact Bool.eq_false_iff.2 c2
  rw [if_neg c1] at hk
  by_cases c2 : cD (T a) = true
  · rw [if_pos c2] at hk
    have hk' : (if adjT T a = true then (5 : Int) else if 4 < rnE cD T n (n - a).toNat a - a then 5 else 3) = 1 ∨ (if adjT T a = true then (5 : Int) else if 4 < rnE cD T n (n - a).toNat a - a then 5 else 3) = 2 := hk
    split at hk'
    · exact absurd hk' (by decide)
    split at hk'
    · exact absurd hk' (by decide)
    · exact absurd hk' (by decide)
  · rw [if_neg c2] at hk
    exact absurd hk (show ¬ ((4 : Int) = 1 ∨ (4 : Int) = 2) by decide)
theorem tk_L2 {T : Int → Int} {n : Int} {i : Nat} (hn : 0 ≤ n) (hi : i + 1 < (toks T n).length) (hk : (tkI (toks T n) i).1 = 2) (hv : (tkI (toks T n) i).2.2.1 = 20) : (tkI (toks T n) i).2.1 + 3 ≤ (tkI (toks T n) (i + 1)).2.1 ∧ ((tkI (toks T n) (i + 1)).1 = 2 → (tkI (toks T n) i).2.1 + 4 ≤ (tkI (toks T n) (i + 1)).2.1) := by
  have w := tok_w (T := T) (n := n) (i := i) (by omega) (Or.inr hk)
  have o : ownI (pk5 0 (tkI (toks T n) i).2.2.2.2 : Nat) = ((20 : Nat) : Int) := by rw [← (w.2.2 hk).2, hv]; rfl
  have p := (own_w w.1 (i := 20) (by decide)).2 o
  have eL := pk8_inj (L := (tkI (toks T n) i).2.2.2.2) (M := ownL.getD 20 []) w.1.2.2 (ownL_ok 20 (by decide)).1 p
  obtain ⟨b, b1, b2, e⟩ := toks_e (T := T) (n := n) (i := i) (by omega) (by rw [hk]; decide)
  have s := toks_s hn hi
  rw [e] at eL hk s
  rw [e, tk_first, s]
  have t := tk_wd (Or.inr hk)
  have te := tk_end (T := T) b2
  have e3 : ((tkAt T n b).2.2.2.2.length : Int) = 3 := by rw [eL]; rfl
  have nf := nx_first (T := T) te.2
  refine ⟨by omega, fun h2 => ?_⟩
  have ne : ¬ (nxT T n (tkAt T n b).2.2.2.1).2.1 = (tkAt T n b).2.2.2.1 := by
    intro z
    unfold nxT at h2 z
    by_cases c : rnE cB T n (n - (tkAt T n b).2.2.2.1).toNat (tkAt T n b).2.2.2.1 < n
    · rw [if_pos c] at h2 z
      rw [tk_first] at z
      rw [z] at h2
      have a := (tk_wd (Or.inr h2)).2.1
      have l := t.2.2 ((tkAt T n b).2.2.2.1 - 1) (by omega) (by omega)
      unfold adjT at a
      rw [l, decide_eq_true (show 0 < (tkAt T n b).2.2.2.1 by omega)] at a
      rw [Bool.true_and, Bool.true_or] at a
      exact absurd a (by decide)
    · rw [if_neg c] at h2
      exact absurd h2 (show ¬ (0 : Int) = 2 by decide)
  omega
/-! what the machine's frames keep to -/
def Sd : List Int → Prop
  | [] => True
  | o :: O => (∀ p ∈ O.head?, rkA p < rkA o ∨ (o = -18 ∧ p = -18)) ∧ Sd O
def nO1 : List Int → Nat
  | [] => 0
  | o :: O => (if o = -18 then 1 else 0) + nO1 O
def nN : List zFr → Nat
  | [] => 0
  | f :: R => nO1 f.2.2.2.2 + nN R
theorem sd_c : ∀ (O : List Int) (o : Int), Sd (o :: O) → ((o :: O).length : Int) ≤ (nO1 (o :: O) : Int) + rkA o
  | [], o, _ => by
    have := @rk_1 o
    show ((0 + 1 : Nat) : Int) ≤ ((_ + 0 : Nat) : Int) + rkA o
    omega
  | p :: O, o, h => by
    have i := sd_c O p h.2
    have e1 : ((o :: p :: O).length : Int) = ((p :: O).length : Int) + 1 := rfl
    rcases h.1 p rfl with z | z
    · have e2 : (nO1 (p :: O) : Int) ≤ (nO1 (o :: p :: O) : Int) := by
        show _ ≤ (((if o = -18 then 1 else 0) + nO1 (p :: O) : Nat) : Int)
        omega
      omega
    · have e2 : (nO1 (o :: p :: O) : Int) = (nO1 (p :: O) : Int) + 1 := by
        show (((if o = -18 then 1 else 0) + nO1 (p :: O) : Nat) : Int) = _
        rw [if_pos z.1]
        omega
      have ro : rkA o = rkA p := by rw [z.1, z.2]
      omega
theorem sd_b {O : List Int} (h : Sd O) : O.length ≤ nO1 O + 6 := by
  cases O with
  | nil => exact Nat.zero_le _
  | cons o O =>
    have := sd_c O o h
    have r : rkA o ≤ 6 := by
      unfold rkA
      repeat' split
      all_goals decide
    omega
theorem jn_o {m : Int} : ∀ (O C : List Int), Sd O → Sd (jnA m O C).1 ∧ (∀ p ∈ (jnA m O C).1.head?, rkA p < m) ∧ nO1 (jnA m O C).1 ≤ nO1 O
  | [], _, _ => ⟨True.intro, hd_n, Nat.le_refl _⟩
  | o :: O, C, h => by
    rw [jnA]
    by_cases z : rkA o < m
    · rw [if_pos z]
      refine ⟨h, fun p hp => ?_, Nat.le_refl _⟩
      have e : o = p := Option.some.inj hp
      rw [← e]; exact z
    · rw [if_neg z]
      have i := jn_o (m := m) O (putA C o) h.2
      refine ⟨i.1, i.2.1, Nat.le_trans i.2.2 ?_⟩
      show _ ≤ (if o = -18 then 1 else 0) + nO1 O
      omega
/-- a frame in order -/
def FI (f : zFr) : Prop := Sd f.2.2.2.2 ∧ (∀ o ∈ f.2.2.2.2, o ≤ -6) ∧ (f.1 = 3 ∨ f.1 = 4 → f.2.2.2.1 ≤ -6) ∧ (f.1 = 1 ∨ f.1 = 5 → f.2.1 = 0 → ∀ o ∈ f.2.2.2.2, rkA o ≠ 4) ∧ (f.2.2.1 = 1 → ∀ o ∈ f.2.2.2.2, rkA o ≤ 3) ∧ (f.2.2.1 = 0 ∨ f.2.2.1 = 1)
def FB : List zFr → Prop
  | [] => True
  | f :: R => (FI f ∧ f.2.2.1 = 0 ∧ (2 ≤ f.1 → 1 ≤ R.length)) ∧ FB R
def FT (o : Bool) : List zFr → Prop
  | [] => False
  | f :: R => FI f ∧ (o = true → f.2.2.1 = 0) ∧ (2 ≤ f.1 → 1 ≤ R.length) ∧ FB R
def IV (T : Int → Int) (n : Int) (c : zCf) : Prop := (c.2.1.length + opsN c.2.2.2 + c.2.2.2.length ≤ c.1.1 + 1 ∧ c.2.2.2.length ≤ 9) ∧ FT c.2.2.1 c.2.2.2 ∧ (4 * (nN c.2.2.2 : Int) ≤ (tkI (toks T n) c.1.1).2.1 + 1 ∧ ((tkI (toks T n) c.1.1).1 = 2 → 4 * (nN c.2.2.2 : Int) ≤ (tkI (toks T n) c.1.1).2.1))
theorem fb_b : ∀ {R : List zFr}, FB R → opsN R ≤ nN R + 6 * R.length
  | [], _ => Nat.le_refl _
  | f :: R, h => by
    have i := fb_b h.2
    have s := sd_b h.1.1.1
    show f.2.2.2.2.length + opsN R ≤ nO1 f.2.2.2.2 + nN R + 6 * (R.length + 1)
    omega
theorem iv_b {T : Int → Int} {n : Int} {s : zRd} {C : List Int} {o : Bool} {f : zFr} {R : List zFr} (ok : AOk (toks T n)) (hs : s.1 < (toks T n).length) (i : IV T n (s, C, o, f :: R)) : f.2.2.2.2.length + opsN R < 490 := by
  have a := (ok.2.2 s.1 hs).1
  have b := fb_b i.2.1.2.2.2
  have d := sd_b i.2.1.1.1
  have e := i.2.2.1
  have g : R.length + 1 ≤ 9 := i.1.2
  have n1 : (nN (f :: R) : Int) = (nO1 f.2.2.2.2 : Int) + (nN R : Int) := rfl
  dsimp only at e
  omega
