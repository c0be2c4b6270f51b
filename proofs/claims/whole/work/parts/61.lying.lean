theorem mk_ok : ∀ n : Nat, n ≤ 10 → Int32.ofInt (zxor (w32 (zshl 1 (n : Int) - 1)) (-1)) = nI (4294967296 - 2 ^ n) := by decide +kernel
theorem mk_dv : ∀ n : Nat, n ≤ 10 → (4294967296 - 2 ^ n) / 2 ^ n = 2 ^ (32 - n) - 1 ∧ (4294967296 - 2 ^ n) % 2 ^ n = 0 ∧ 4294967296 / 2 ^ n = 2 ^ (32 - n) ∧ 2 ^ n * 2 ^ (32 - n) = 4294967296 := by decide +kernel
theorem and_hi {A n : Nat} (hA : A < 4294967296) (hn : n ≤ 10) : A &&& (4294967296 - 2 ^ n) = 0 ↔ A < 2 ^ n := by
  obtain ⟨m1, m2, m3, m4⟩ := mk_dv n hn
  have p : 0 < 2 ^ n := Nat.two_pow_pos n
  have q1 : (A &&& (4294967296 - 2 ^ n)) / 2 ^ n = A / 2 ^ n := by
    rw [Nat.and_div_two_pow, m1, Nat.and_two_pow_sub_one_eq_mod]
    exact Nat.mod_eq_of_lt (by rw [Nat.div_lt_iff_lt_mul p, Nat.mul_comm, m4]; exact hA)
  have q2 : (A &&& (4294967296 - 2 ^ n)) % 2 ^ n = 0 := by
    rw [Nat.and_mod_two_pow, m2, Nat.and_zero]
  constructor
  · intro z
    rw [z, Nat.zero_div] at q1
    exact (Nat.div_eq_zero_iff_lt p).1 q1.symm
  · intro z
    rw [(Nat.div_eq_zero_iff_lt p).2 z] at q1
    have := Nat.div_add_mod (A &&& (4294967296 - 2 ^ n)) (2 ^ n)
    rw [q1, q2] at this
    omega
theorem mk_zero {a : Int} (ha : zI32 a) {n : Nat} (hn : n ≤ 10) : zand a (zxor (w32 (zshl 1 (n : Int) - 1)) (-1)) = 0 ↔ 0 ≤ a ∧ a < ((2 ^ n : Nat) : Int) := by
  have hp : (2 : Nat) ^ n ≤ 1024 := Nat.pow_le_pow_right (by decide) hn
  have e : zand a (zxor (w32 (zshl 1 (n : Int) - 1)) (-1)) = w32 (((a % 4294967296).toNat &&& (4294967296 - 2 ^ n) : Nat) : Int) := by
    unfold zand
    rw [mk_ok n hn, zi_nat a, nx_and, ← zn32, zti]
  have l : (a % 4294967296).toNat &&& (4294967296 - 2 ^ n) < 4294967296 := Nat.lt_of_le_of_lt Nat.and_le_left (by omega)
  have q := and_hi (A := (a % 4294967296).toNat) (by omega) hn
  unfold zI32 at ha
  rw [e]
  constructor
  · intro z
    have z2 : (a % 4294967296).toNat &&& (4294967296 - 2 ^ n) = 0 := by unfold w32 at z; omega
    have z3 := q.1 z2
    omega
  · intro z
    rw [q.2 (by omega)]
    rfl
/-- the stones that a mask names -/
def mkB (x i : Int) : Bool := decide (x / ((2 ^ i.toNat : Nat) : Int) % 2 = 1)
theorem mkB_t {x i : Int} (hx : zI32 x) (hi : 0 ≤ i ∧ i < 32) : zand (zshr x i) 1 = (mkB x i).toInt := by
  have e := zshr_g hx (k := i.toNat) (by omega)
  rw [show ((i.toNat : Nat) : Int) = i by omega] at e
  rw [e, zand_1]
  unfold mkB
  by_cases c : x / ((2 ^ i.toNat : Nat) : Int) % 2 = 1
  · rw [c]; rfl
  · rw [decide_eq_false c]
    show _ = (0 : Int)
    omega
