theorem mk_ok : ∀ n : Nat, n ≤ 10 → Int32.ofInt (zxor (w32 (zshl 1 (n : Int) - 1)) (-1)) = nI (4294967296 - 2 ^ n) := by decide +kernel
theorem mk_dv : ∀ n : Nat, n ≤ 10 → (4294967296 - 2 ^ n) / 2 ^ n = 2 ^ (32 - n) - 1 ∧ (4294967296 - 2 ^ n) % 2 ^ n = 0 ∧ 4294967296 / 2 ^ n = 2 ^ (32 - n) ∧ 2 ^ n * 2 ^ (32 - n) = 4294967296 := by decide +kernel
theorem and_hi {A n : Nat} (hA : A < 4294967296) (hn : n ≤ 10) : A &&& (4294967296 - 2 ^ n) = 0 ↔ A < 2 ^ n := by
  obtain ⟨m1, m2, m3, m4⟩ := mk_dv n hn
  have p : 0 < 2 ^ n := Nat.two_pow_pos n
  have q1 : (A &&& (4294967296 - 2 ^ n)) / 2 ^ n = A / 2 ^ n := by
    rw [Nat.and_div_two_pow, m1, Nat.and_two_pow_sub_one_eq_mod]
    exact Nat.mod_eq_of_lt (by rw [Nat.div_lt_iff_lt_mul p, Nat.mul_comm, m4]; exact hA)
  have q2 : (A &&& (4294967296 - 2 ^ n)) % 2 ^ n = 0 := by
    rw [Nat.and_mod_two_pow, m2, Nat.and_zero]
  constructor
  · intro z
    rw [z, Nat.zero_div] at q1
    exact (Nat.div_eq_zero_iff_lt p).1 q1.symm
  · intro z
    rw [(Nat.div_eq_zero_iff_lt p).2 z] at q1
    have := Nat.div_add_mod (A &&& (4294967296 - 2 ^ n)) (2 ^ n)
    rw [q1, q2] at this
    omega
