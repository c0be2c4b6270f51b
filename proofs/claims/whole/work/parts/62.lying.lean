def mkI (x i : Int) : Int := (mkB x i).toInt
def lyA (st : zH) (x : Int) : Nat → Int → Bool
  | 0, _ => true
  | n + 1, i => (!(mkB x i) || decide (st 1 i ≠ -1)) && lyA st x n (i + 1)
theorem bc_mk : ∀ x : Nat, x < 1024 → bcI (x : Int) = isum (mkI (x : Int)) 10 0 := by decide +kernel
theorem isum_sp {f : Int → Int} : ∀ (n m : Nat) (i : Int), isum f (n + m) i = isum f n i + isum f m (i + n)
  | 0, m, i => by rw [Nat.zero_add, show isum f 0 i = 0 from rfl, show i + ((0 : Nat) : Int) = i by omega]; omega
  | n + 1, m, i => by
    rw [show n + 1 + m = (n + m) + 1 by omega]
    show f i + isum f (n + m) (i + 1) = f i + isum f n (i + 1) + isum f m (i + ((n + 1 : Nat) : Int))
    rw [isum_sp n m (i + 1), show i + 1 + (n : Int) = i + ((n + 1 : Nat) : Int) by omega]; omega
theorem bc_n {x : Int} {n : Nat} (hn : n ≤ 10) (hx : 0 ≤ x ∧ x < ((2 ^ n : Nat) : Int)) : bcI x = isum (mkI x) n 0 := by
  have hp : (2 : Nat) ^ n ≤ 1024 := Nat.pow_le_pow_right (by decide) hn
  have e := bc_mk x.toNat (by omega)
  rw [show ((x.toNat : Nat) : Int) = x by omega] at e
  rw [e, show (10 : Nat) = n + (10 - n) by omega, isum_sp, isum_z (10 - n) _ (fun i i1 i2 => ?_), Int.add_zero]
  have hq : (2 : Nat) ^ n ≤ 2 ^ i.toNat := Nat.pow_le_pow_right (by decide) (by omega)
  unfold mkI mkB
  rw [Int.ediv_eq_zero_of_lt hx.1 (by omega)]
  rfl
abbrev LyP (σ st : zH) (x m : Int) : Prop := (0 ≤ x ∧ x < ((2 ^ (nS σ).toNat : Nat) : Int)) ∧ (1 ≤ isum (mkI x) (nS σ).toNat 0 ∧ isum (mkI x) (nS σ).toNat 0 ≤ m) ∧ lyA st x (nS σ).toNat 0 = true
theorem q_lying40 {d : Nat} {σ st : zH} {a x : Int} {h : zH} (b : BC σ st a h) (hx : zI32 x) : ∀ (n : Nat) {i : Int}, 0 ≤ i → i + n = nS σ → zWp (l_B_areLying_40 d x i h) (fun v h' => v = .inl (lyA st x n i).toInt ∧ h' = h) := by
  intro n
  have ha := b.2.1.a
  have hS10 : nS σ ≤ 10 := b.2.2.2.1.2.1.2.2.2.1
  have eS : h (a + 8) 7 = nS σ := b.2.1.g 8 (by decide)
  induction n with
  | zero =>
    intro i hi hh
    rw [el_B_areLying_40, b.1, eS]
    exact zWp_po (by omega) (zWp_po (by omega) (zWp_it (by decide) (zWp_nt (by omega) (zWp_s ⟨rfl, rfl⟩))))
  | succ n ih =>
    intro i hi hh
    have e1 : h 68 i = st 1 i := b.2.2.1.pl (by omega)
    rw [el_B_areLying_40, b.1, eS, e1, mkB_t hx (by omega), w32_i (x := i + 1) (by omega), show lyA st x (n + 1) i = ((!(mkB x i) || decide (st 1 i ≠ -1)) && lyA st x n (i + 1)) from rfl]
    refine zWp_po (by omega) (zWp_po (by omega) (zWp_it (by decide) (zWp_it (by omega) ?_)))
    cases hm : mkB x i with
    | true =>
      refine zWp_it rfl (zWp_it (by omega) ?_)
      by_cases c : st 1 i = -1
      · rw [decide_eq_false (fun z => z c)]
        exact zWp_it c (zWp_s ⟨rfl, rfl⟩)
      · rw [decide_eq_true c]
        exact zWp_nt c (ih (by omega) (by omega))
    | false => exact zWp_nt (by decide) (ih (by omega) (by omega))
theorem q_areLying {d : Nat} {σ st : zH} {a x m : Int} {h : zH} (b : BC σ st a h) (hx : zI32 x) : zWp (m_B_areLying (d + 2) x m h) (fun v h' => v = .inl (if LyP σ st x m then 1 else 0) ∧ h' = h) := by
  have ha := b.2.1.a
  have hS0 : 0 ≤ nS σ := b.2.2.2.1.2.1.2.2.1
  have hS10 : nS σ ≤ 10 := b.2.2.2.1.2.1.2.2.2.1
  have eS : h (a + 8) 7 = nS σ := b.2.1.g 8 (by decide)
  have hz := mk_zero hx (n := (nS σ).toNat) (by omega)
  rw [show (((nS σ).toNat : Nat) : Int) = nS σ by omega] at hz
  rw [em_B_areLying, b.1, eS]
  refine zWp_po (by omega) (zWp_po (by omega) (zWp_it (by decide) ?_))
  by_cases c0 : 0 ≤ x ∧ x < ((2 ^ (nS σ).toNat : Nat) : Int)
  case neg =>
    rw [if_neg (fun z : LyP σ st x m => c0 z.1)]
    exact zWp_nt (fun z => c0 (hz.1 z)) (zWp_s ⟨rfl, rfl⟩)
  refine zWp_it (hz.2 c0) (zWp_qi q_bitCount (zWp_qi q_between ?_))
  rw [bc_n (by omega) c0]
  by_cases c1 : 1 ≤ isum (mkI x) (nS σ).toNat 0 ∧ isum (mkI x) (nS σ).toNat 0 ≤ m
  case neg =>
    rw [if_neg c1, if_neg (fun z : LyP σ st x m => c1 z.2.1)]
    exact zWp_it rfl (zWp_s ⟨rfl, rfl⟩)
  rw [if_pos c1]
  refine zWp_nt (by decide) (zWp_m (q_lying40 (d := d + 1) b hx (nS σ).toNat (Int.le_refl 0) (by omega)) ?_)
  rintro v h' ⟨u1, u2⟩
  refine ⟨?_, u2⟩
  rw [u1]
  by_cases c2 : lyA st x (nS σ).toNat 0 = true
  · rw [if_pos (show LyP σ st x m from ⟨c0, c1, c2⟩), c2]; rfl
  · rw [if_neg (fun z : LyP σ st x m => c2 z.2.2), show lyA st x (nS σ).toNat 0 = false by simpa using c2]; rfl
