/-! the slope and the state, away from any heap. A slope σ: 0: wide, high; 1 height, 2 next, 3 drop, 4 rough, 5 holds, 6 land, 7 houseAt, 8 count, 13 weight, 14 rest, 15 stonePlace, 16 worth, 17 housePlace, 18 strength, 19 odds, 20 rope. A state st: 1 place, 2 rolls, 3 comes, 5 holds, 6 rough, 7 balance, 8 net, 9 ruin. -/
def nC (σ : zH) : Int := σ 0 0 * σ 0 1
abbrev nO (σ : zH) : Int := σ 8 4
abbrev nS (σ : zH) : Int := σ 8 7
abbrev nHo (σ : zH) : Int := σ 8 10
abbrev nT (σ : zH) : Int := σ 8 13
abbrev nRo (σ : zH) : Int := σ 8 15
abbrev nLa (σ : zH) : Int := σ 8 16
/-- the first number from i on, n of them at most, of which it holds; else -1 -/
def zfs (f : Int → Bool) : Nat → Int → Int
  | 0, _ => -1
  | n + 1, i => match f i with
    | true => i
    | false => zfs f n (i + 1)
def sAt (σ st : zH) (c : Int) : Int := zfs (fun i => decide (st 1 i = c)) (nS σ).toNat 0
theorem zfs_t {f : Int → Bool} {n : Nat} {i : Int} (h : f i = true) : zfs f (n + 1) i = i := by unfold zfs; rw [h]
theorem zfs_f {f : Int → Bool} {n : Nat} {i : Int} (h : f i = false) : zfs f (n + 1) i = zfs f n (i + 1) := by rw [zfs, h]
theorem zfs_spec (f : Int → Bool) : ∀ (n : Nat) (i : Int), (zfs f n i = -1 ∧ ∀ j, i ≤ j → j < i + n → f j = false) ∨ (i ≤ zfs f n i ∧ zfs f n i < i + n ∧ f (zfs f n i) = true ∧ ∀ j, i ≤ j → j < zfs f n i → f j = false)
  | 0, i => Or.inl ⟨rfl, fun j h1 h2 => by omega⟩
  | n + 1, i => by
    cases hf : f i with
    | true => rw [zfs_t hf]; exact Or.inr ⟨by omega, by omega, hf, fun j h1 h2 => by omega⟩
    | false =>
      rw [zfs_f hf]
      rcases zfs_spec f n (i + 1) with ⟨h1, h2⟩ | ⟨h1, h2, h3, h4⟩
      · refine Or.inl ⟨h1, fun j k1 k2 => ?_⟩
        by_cases e : j = i
        · rw [e]; exact hf
        · exact h2 j (by omega) (by omega)
      · refine Or.inr ⟨by omega, by omega, h3, fun j k1 k2 => ?_⟩
        by_cases e : j = i
        · rw [e]; exact hf
        · exact h4 j (by omega) k2
/-- what a text that is a slope tells is in order -/
def WS (σ : zH) : Prop :=
  (0 ≤ σ 0 0 ∧ σ 0 0 ≤ 10 ∧ 0 ≤ σ 0 1 ∧ σ 0 1 ≤ 10 ∧ nC σ ≤ 60) ∧
  (0 ≤ nO σ ∧ nO σ ≤ 6 ∧ 0 ≤ nS σ ∧ nS σ ≤ 10 ∧ 0 ≤ nHo σ ∧ nHo σ ≤ 8 ∧ 0 ≤ nT σ ∧ nT σ ≤ 6 ∧ 0 ≤ nRo σ ∧ nRo σ ≤ 9 ∧ 0 ≤ nLa σ ∧ nLa σ ≤ 8) ∧
  (∀ c, 0 ≤ c → c < nC σ → 0 ≤ σ 1 c ∧ σ 1 c ≤ 999 ∧ (σ 2 c = -1 ∧ σ 3 c = 0 ∨ 0 ≤ σ 2 c ∧ σ 2 c < nC σ ∧ σ 3 c = σ 1 c - σ 1 (σ 2 c) ∧ 1 ≤ σ 3 c)) ∧
  (∀ c, 0 ≤ c → c < nC σ → 0 ≤ σ 4 c ∧ σ 4 c ≤ 99 ∧ 0 ≤ σ 5 c ∧ σ 5 c ≤ 9999 ∧ -1 ≤ σ 6 c ∧ σ 6 c < nO σ ∧ -1 ≤ σ 7 c ∧ σ 7 c < nHo σ ∧ (σ 7 c ≠ -1 → σ 17 (σ 7 c) = c) ∧ (σ 7 c ≠ -1 → σ 5 c = 0)) ∧
  (∀ i, 0 ≤ i → i < nS σ → 1 ≤ σ 13 i ∧ σ 13 i ≤ 999 ∧ 0 ≤ σ 14 i ∧ σ 14 i ≤ 9999 ∧ 0 ≤ σ 15 i ∧ σ 15 i < nC σ ∧ (∀ j, 0 ≤ j → j < nS σ → σ 15 j = σ 15 i → j = i)) ∧
  (∀ i, 0 ≤ i → i < nHo σ → 1 ≤ σ 16 i ∧ σ 16 i ≤ 999 ∧ 0 ≤ σ 17 i ∧ σ 17 i < nC σ ∧ σ 7 (σ 17 i) = i) ∧
  (∀ i, 0 ≤ i → i < nT σ → 0 ≤ σ 18 i ∧ σ 18 i ≤ 9999 ∧ 1 ≤ σ 19 i ∧ σ 19 i ≤ 99) ∧
  (∀ i, 0 ≤ i → i < nRo σ → 1 ≤ σ 20 i ∧ σ 20 i ≤ 9999)
theorem WS.n {σ : zH} (w : WS σ) : 0 ≤ nC σ ∧ nC σ ≤ 60 := ⟨by unfold nC; exact Int.mul_nonneg w.1.1 w.1.2.2.1, w.1.2.2.2.2⟩
/-- a state in order -/
def WT (σ st : zH) : Prop :=
  (∀ i, 0 ≤ i → i < nS σ → (st 1 i = -1 ∨ 0 ≤ st 1 i ∧ st 1 i < nC σ) ∧ (∀ j, 0 ≤ j → j < nS σ → st 1 j = st 1 i → st 1 i = -1 ∨ j = i)) ∧
  (∀ c, 0 ≤ c → c < nC σ → 0 ≤ st 5 c ∧ st 5 c ≤ 9999 ∧ 0 ≤ st 6 c ∧ st 6 c ≤ 99 ∧ (st 8 c = 0 ∨ st 8 c = 1) ∧ (0 < st 5 c → σ 7 c = -1 ∨ st 9 (σ 7 c) = 1)) ∧
  (∀ i, 0 ≤ i → i < nHo σ → st 9 i = 0 ∨ st 9 i = 1)
/-- bits -/
def zBt (N : Nat) (f : Int → Int) (n : Nat) : Prop := ∀ i : Nat, N.testBit i = decide (i < n ∧ f i = 1)
/-- the class holds a slope -/
def CS (σ : zH) (a : Int) (h : zH) : Prop := (a = 11 ∨ a = 39) ∧ ∀ k i : Int, 0 ≤ k → k < 21 → h (a + k) i = σ k i
theorem CS.a {σ : zH} {a : Int} {h : zH} (c : CS σ a h) : 11 ≤ a ∧ a ≤ 39 := by rcases c.1 with e | e <;> omega
theorem CS.g {σ : zH} {a : Int} {h : zH} (c : CS σ a h) (k : Int) {i : Int} (hk : 0 ≤ k ∧ k < 21) : h (a + k) i = σ k i := c.2 k i hk.1 hk.2
theorem CS.z {σ : zH} {a : Int} {h : zH} (c : CS σ a h) {i : Int} : h a i = σ 0 i := by
  have := c.2 0 i (by omega) (by omega)
  rwa [Int.add_zero] at this
/-- where a state of the class lies -/
def SA (s : Int) : Prop := s = 67 ∨ s = 75 ∨ (86 ≤ s ∧ s ≤ 318 ∧ (s - 86) % 8 = 0) ∨ s = 335 ∨ s = 353 ∨ s = 361 ∨ s = 369 ∨ s = 379 ∨ s = 387 ∨ s = 395
theorem SA.apart {s t : Int} (hs : SA s) (ht : SA t) : s = t ∨ s + 8 ≤ t ∨ t + 8 ≤ s := by unfold SA at hs ht; omega
theorem SA.low {s : Int} (hs : SA s) : 67 ≤ s ∧ s ≤ 395 := by unfold SA at hs; omega
/-- the class holds a state -/
def CT (σ st : zH) (s : Int) (h : zH) : Prop := SA s ∧
  (∀ i, 0 ≤ i → i < 10 → h (s + 1) i = st 1 i ∧ h (s + 2) i = w32 (st 2 i) ∧ h (s + 3) i = w32 (st 3 i)) ∧
  (∀ c, 0 ≤ c → c < nC σ → h (s + 4) c = sAt σ st c) ∧
  (∀ c, 0 ≤ c → c < 60 → h (s + 5) c = st 5 c ∧ h (s + 6) c = st 6 c) ∧
  (∀ o, 0 ≤ o → o < 6 → h (s + 7) o = w32 (st 7 o)) ∧
  (∃ N : Nat, h s 7 = N ∧ N < 2 ^ 60 ∧ zBt N (st 8) (nC σ).toNat) ∧ (∃ N : Nat, h s 8 = N ∧ N < 2 ^ 8 ∧ zBt N (st 9) 8) ∧ h s 9 = st 10 0
