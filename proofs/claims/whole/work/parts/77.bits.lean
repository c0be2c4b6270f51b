/-! how many bits: a long; has, both alike -/
theorem zsu64 : ∀ n, n < 64 → (((nI n).toInt64.toUInt64 &&& Int64.toUInt64 63).toBitVec % 64).toNat = n := by decide +kernel
theorem zlushr_n {a k : Nat} (ha : a < 2 ^ 63) (hk : k < 64) : zlushr a k = ((a / 2 ^ k : Nat) : Int) := by
  unfold zlushr
  rw [zn64 a, zn32 k]
  have e : ((lN a).toUInt64 >>> ((nI k).toInt64.toUInt64 &&& Int64.toUInt64 63)).toInt64 = lN (a / 2 ^ k) := by
    apply Int64.toBitVec_inj.mp
    show (BitVec.ofNat 64 a) >>> (((nI k).toInt64.toUInt64 &&& Int64.toUInt64 63).toBitVec % 64).toNat = BitVec.ofNat 64 (a / 2 ^ k)
    rw [zsu64 k hk]
    apply BitVec.eq_of_toNat_eq
    have h1 : a < 2 ^ 64 := Nat.lt_trans ha (by decide)
    rw [BitVec.toNat_ushiftRight, BitVec.toNat_ofNat, BitVec.toNat_ofNat, Nat.shiftRight_eq_div_pow, Nat.mod_eq_of_lt h1, Nat.mod_eq_of_lt (Nat.lt_of_le_of_lt (Nat.div_le_self _ _) h1)]
  rw [e, zlNI (Nat.lt_of_le_of_lt (Nat.div_le_self _ _) ha)]
def lc1 (x : Int) : Int := w64 (x - (zland (zlushr x 1) 6148914691236517205))
def lc2 (x : Int) : Int := w64 ((zland x 3689348814741910323) + (zland (zlushr x 2) 3689348814741910323))
def lc3 (x : Int) : Int := zland (w64 (x + (zlushr x 4))) 1085102592571150095
def lc4 (x : Int) : Int := w64 (x + (zlushr x 8))
def lc5 (x : Int) : Int := w64 (x + (zlushr x 16))
def lc6 (x : Int) : Int := w64 (x + (zlushr x 32))
def bcL (x : Int) : Int := zand (w32 (lc6 (lc5 (lc4 (lc3 (lc2 (lc1 x))))))) 127
theorem q_bitCountL {d : Nat} {x : Int} {h : zH} : m_Long_bitCount (d + 1) x h = some (.inl (bcL x), h) := em_Long_bitCount d x h
/-- masks of k bytes -/
def mkM (m : Nat) : Nat → Nat
  | 0 => 0
  | k + 1 => 256 * mkM m k + m
theorem and_b {y z M m : Nat} (hz : z < 256) (hm : m < 256) : (256 * y + z) &&& (256 * M + m) = 256 * (y &&& M) + (z &&& m) := by
  have h1 : ((256 * y + z) &&& (256 * M + m)) / 2 ^ 8 = y &&& M := by
    rw [Nat.and_div_two_pow, show (256 * y + z) / 2 ^ 8 = y by omega, show (256 * M + m) / 2 ^ 8 = M by omega]
  have h2 : ((256 * y + z) &&& (256 * M + m)) % 2 ^ 8 = z &&& m := by
    rw [Nat.and_mod_two_pow, show (256 * y + z) % 2 ^ 8 = z by omega, show (256 * M + m) % 2 ^ 8 = m by omega]
  omega
/-- what a byte comes to -/
def by1 (z : Nat) : Nat := z - ((z / 2) &&& 85)
def by2 (z : Nat) : Nat := (z &&& 51) + ((z / 4) &&& 51)
def by3 (z : Nat) : Nat := (z + z / 16) &&& 15
def pl : Nat → Nat → Nat
  | 0, _ => 0
  | n + 1, N => N % 2 + pl n (N / 2)
theorem byT : ∀ z : Nat, z < 256 → by1 z < 256 ∧ (by2 (by1 z) ≤ 68 ∧ by2 (by1 z) % 16 ≤ 4) ∧ by3 (by2 (by1 z)) = pl 8 z ∧ pl 8 z ≤ 8 := by decide +kernel
theorem byA : ∀ z : Nat, z < 256 → (128 + z / 2) &&& 85 = (z / 2) &&& 85 ∧ (z / 2) &&& 85 ≤ z := by decide +kernel
theorem byB : ∀ z : Nat, z < 256 → ((64 + z / 4) &&& 51 = (z / 4) &&& 51 ∧ (128 + z / 4) &&& 51 = (z / 4) &&& 51 ∧ (192 + z / 4) &&& 51 = (z / 4) &&& 51) := by decide +kernel
theorem byC : ∀ z : Nat, z ≤ 68 → ∀ b : Nat, b < 16 → (z + z / 16 + 16 * b) &&& 15 = (z + z / 16) &&& 15 := by
  intro z hz b hb
  have e : ∀ a : Nat, a &&& 15 = a % 16 := fun a => by rw [show (15 : Nat) = 2 ^ 4 - 1 from rfl, Nat.and_two_pow_sub_one_eq_mod]
  rw [e, e]; omega
/-- a number out of its bytes, the lowest first -/
def unB : List Nat → Nat
  | [] => 0
  | z :: L => 256 * unB L + z
def toB : Nat → Nat → List Nat
  | 0, _ => []
  | k + 1, N => N % 256 :: toB k (N / 256)
theorem unB_toB : ∀ (k N : Nat), N < 256 ^ k → unB (toB k N) = N
  | 0, N, h => by
    have : N = 0 := by simpa using h
    rw [this]; rfl
  | k + 1, N, h => by
    show 256 * unB (toB k (N / 256)) + N % 256 = N
    rw [unB_toB k (N / 256) (by rw [Nat.div_lt_iff_lt_mul (by decide), ← Nat.pow_succ]; exact h)]
    omega
theorem toB_lt : ∀ (k N : Nat), ∀ z ∈ toB k N, z < 256
  | 0, N, z, h => by cases h
  | k + 1, N, z, h => by
    rcases List.mem_cons.mp h with e | e
    · rw [e]; omega
    · exact toB_lt k _ z e
theorem toB_len : ∀ (k N : Nat), (toB k N).length = k
  | 0, N => rfl
  | k + 1, N => congrArg (· + 1) (toB_len k (N / 256))
theorem st1 : ∀ L : List Nat, (∀ z ∈ L, z < 256) → (unB L / 2) &&& mkM 85 L.length ≤ unB L ∧ unB L - ((unB L / 2) &&& mkM 85 L.length) = unB (L.map by1)
  | [], _ => ⟨by decide, rfl⟩
  | z :: L, h => by
    have hz := h z List.mem_cons_self
    obtain ⟨i1, i2⟩ := st1 L (fun y hy => h y (List.mem_cons_of_mem _ hy))
    obtain ⟨a1, a2⟩ := byA z hz
    have e : (unB (z :: L) / 2) &&& mkM 85 (z :: L).length = 256 * ((unB L / 2) &&& mkM 85 L.length) + ((z / 2) &&& 85) := by
      show ((256 * unB L + z) / 2) &&& (256 * mkM 85 L.length + 85) = _
      rcases Nat.mod_two_eq_zero_or_one (unB L) with q | q
      · rw [show (256 * unB L + z) / 2 = 256 * (unB L / 2) + z / 2 by omega, and_b (by omega) (by decide)]
      · rw [show (256 * unB L + z) / 2 = 256 * (unB L / 2) + (128 + z / 2) by omega, and_b (by omega) (by decide), a1]
    rw [e]
    refine ⟨by show _ ≤ 256 * unB L + z; omega, ?_⟩
    show 256 * unB L + z - _ = 256 * unB (L.map by1) + by1 z
    rw [← i2]
    unfold by1
    omega
theorem st2 : ∀ L : List Nat, (∀ z ∈ L, z < 256) → (unB L &&& mkM 51 L.length) + ((unB L / 4) &&& mkM 51 L.length) = unB (L.map by2)
  | [], _ => rfl
  | z :: L, h => by
    have hz := h z List.mem_cons_self
    have ih := st2 L (fun y hy => h y (List.mem_cons_of_mem _ hy))
    obtain ⟨a1, a2, a3⟩ := byB z hz
    have e : (unB (z :: L) / 4) &&& mkM 51 (z :: L).length = 256 * ((unB L / 4) &&& mkM 51 L.length) + ((z / 4) &&& 51) := by
      show ((256 * unB L + z) / 4) &&& (256 * mkM 51 L.length + 51) = _
      rcases (show unB L % 4 = 0 ∨ unB L % 4 = 1 ∨ unB L % 4 = 2 ∨ unB L % 4 = 3 by omega) with q | q | q | q
      · rw [show (256 * unB L + z) / 4 = 256 * (unB L / 4) + z / 4 by omega, and_b (by omega) (by decide)]
      · rw [show (256 * unB L + z) / 4 = 256 * (unB L / 4) + (64 + z / 4) by omega, and_b (by omega) (by decide), a1]
      · rw [show (256 * unB L + z) / 4 = 256 * (unB L / 4) + (128 + z / 4) by omega, and_b (by omega) (by decide), a2]
      · rw [show (256 * unB L + z) / 4 = 256 * (unB L / 4) + (192 + z / 4) by omega, and_b (by omega) (by decide), a3]
    have e2 : unB (z :: L) &&& mkM 51 (z :: L).length = 256 * (unB L &&& mkM 51 L.length) + (z &&& 51) := and_b hz (by decide)
    rw [e, e2]
    show _ = 256 * unB (L.map by2) + by2 z
    rw [← ih]
    unfold by2
    omega
theorem unB_16 : ∀ L : List Nat, (∀ z ∈ L, z ≤ 68 ∧ z % 16 ≤ 4) → unB L % 16 ≤ 4
  | [], _ => by decide
  | z :: L, h => by
    have hz := h z List.mem_cons_self
    show (256 * unB L + z) % 16 ≤ 4
    omega
theorem st3 : ∀ L : List Nat, (∀ z ∈ L, z ≤ 68 ∧ z % 16 ≤ 4) → (unB L + unB L / 16) &&& mkM 15 L.length = unB (L.map by3)
  | [], _ => rfl
  | z :: L, h => by
    have hz := h z List.mem_cons_self
    have ih := st3 L (fun y hy => h y (List.mem_cons_of_mem _ hy))
    have hq := unB_16 L (fun y hy => h y (List.mem_cons_of_mem _ hy))
    have hc := byC z hz.1 (unB L % 16) (by omega)
    show (256 * unB L + z + (256 * unB L + z) / 16) &&& (256 * mkM 15 L.length + 15) = 256 * unB (L.map by3) + by3 z
    rw [show 256 * unB L + z + (256 * unB L + z) / 16 = 256 * (unB L + unB L / 16) + (z + z / 16 + 16 * (unB L % 16)) by omega, and_b (by omega) (by decide), hc, ih]
    rfl
theorem map_bd {f : Nat → Nat} {B C : Nat} (hf : ∀ z, z < B → f z < C) {L : List Nat} (h : ∀ z ∈ L, z < B) : ∀ z ∈ L.map f, z < C := fun z hz => by
  obtain ⟨y, y1, rfl⟩ := List.mem_map.mp hz
  exact hf y (h y y1)
theorem pl_add : ∀ (k n y z : Nat), z < 2 ^ k → pl (k + n) (2 ^ k * y + z) = pl k z + pl n y
  | 0, n, y, z, h => by
    have : z = 0 := by simpa using h
    rw [this, Nat.pow_zero, Nat.one_mul, Nat.zero_add, Nat.add_zero]
    show pl n y = 0 + pl n y
    omega
  | k + 1, n, y, z, h => by
    have e : 2 ^ (k + 1) * y = 2 * (2 ^ k * y) := by rw [Nat.pow_succ]; rw [Nat.mul_comm (2 ^ k) 2, Nat.mul_assoc]
    rw [Nat.pow_succ] at h
    rw [show k + 1 + n = (k + n) + 1 by omega, e]
    show (2 * (2 ^ k * y) + z) % 2 + pl (k + n) ((2 * (2 ^ k * y) + z) / 2) = (z % 2 + pl k (z / 2)) + pl n y
    rw [show (2 * (2 ^ k * y) + z) / 2 = 2 ^ k * y + z / 2 by omega, pl_add k n y (z / 2) (by omega)]
    omega
theorem pl_bytes : ∀ (k N : Nat), pl (8 * k) N = (toB k N).foldr (fun z s => pl 8 z + s) 0
  | 0, N => rfl
  | k + 1, N => by
    have := pl_add 8 (8 * k) (N / 256) (N % 256) (by omega)
    rw [show 2 ^ 8 * (N / 256) + N % 256 = N by omega] at this
    rw [show 8 * (k + 1) = 8 + 8 * k by omega, this, pl_bytes k]
    rfl
theorem bcL_ok {N : Nat} (h : N < 2 ^ 60) : bcL (N : Int) = (pl 64 N : Nat) := by
  have hL := toB_lt 8 N
  have hU : unB (toB 8 N) = N := unB_toB 8 N (Nat.lt_trans h (by decide))
  have hlen := toB_len 8 N
  have s1 := st1 (toB 8 N) hL
  rw [hU, hlen, show mkM 85 8 = 6148914691236517205 from by decide] at s1
  have hL1 : ∀ z ∈ (toB 8 N).map by1, z < 256 := map_bd (fun z hz => (byT z hz).1) hL
  have s2 := st2 ((toB 8 N).map by1) hL1
  rw [List.length_map, hlen, show mkM 51 8 = 3689348814741910323 from by decide, ← s1.2] at s2
  have hL2 : ∀ z ∈ ((toB 8 N).map by1).map by2, z ≤ 68 ∧ z % 16 ≤ 4 := fun z hz => by
    obtain ⟨y, y1, rfl⟩ := List.mem_map.mp hz
    obtain ⟨x, x1, rfl⟩ := List.mem_map.mp y1
    exact (byT x (hL x x1)).2.1
  have s3 := st3 (((toB 8 N).map by1).map by2) hL2
  rw [List.length_map, List.length_map, hlen, show mkM 15 8 = 1085102592571150095 from by decide, ← s2] at s3
  have e1 : lc1 (N : Int) = ((N - ((N / 2) &&& 6148914691236517205) : Nat) : Int) := by
    unfold lc1
    have a := zlushr_n (a := N) (k := 1) (by omega) (by decide)
    rw [show ((1 : Nat) : Int) = 1 from rfl, show (2 : Nat) ^ 1 = 2 from rfl] at a
    rw [a, show (6148914691236517205 : Int) = ((6148914691236517205 : Nat) : Int) from rfl, zland_n (Or.inr (by decide)), w64_i (by omega)]
    omega
  have b1 : N - ((N / 2) &&& 6148914691236517205) < 2 ^ 60 := by omega
  generalize N - ((N / 2) &&& 6148914691236517205) = n1 at e1 b1 s2 s3
  have e2 : lc2 (n1 : Int) = (((n1 &&& 3689348814741910323) + ((n1 / 4) &&& 3689348814741910323) : Nat) : Int) := by
    unfold lc2
    have a := zlushr_n (a := n1) (k := 2) (by omega) (by decide)
    rw [show ((2 : Nat) : Int) = 2 from rfl, show (2 : Nat) ^ 2 = 4 from rfl] at a
    have l1 : n1 &&& 3689348814741910323 ≤ n1 := Nat.and_le_left
    have l2 : (n1 / 4) &&& 3689348814741910323 ≤ n1 / 4 := Nat.and_le_left
    rw [a, show (3689348814741910323 : Int) = ((3689348814741910323 : Nat) : Int) from rfl, zland_n (Or.inr (by decide)), zland_n (Or.inr (by decide)), w64_i (by omega)]
    omega
  have b2 : (n1 &&& 3689348814741910323) + ((n1 / 4) &&& 3689348814741910323) < 2 ^ 61 := by
    have l1 : n1 &&& 3689348814741910323 ≤ n1 := Nat.and_le_left
    have l2 : (n1 / 4) &&& 3689348814741910323 ≤ n1 / 4 := Nat.and_le_left
    omega
  generalize (n1 &&& 3689348814741910323) + ((n1 / 4) &&& 3689348814741910323) = n2 at e2 b2 s3
  have e3 : lc3 (n2 : Int) = (((n2 + n2 / 16) &&& 1085102592571150095 : Nat) : Int) := by
    unfold lc3
    have a := zlushr_n (a := n2) (k := 4) (by omega) (by decide)
    rw [show ((4 : Nat) : Int) = 4 from rfl, show (2 : Nat) ^ 4 = 16 from rfl] at a
    rw [a, w64_i (by omega), show (n2 : Int) + ((n2 / 16 : Nat) : Int) = ((n2 + n2 / 16 : Nat) : Int) by omega, show (1085102592571150095 : Int) = ((1085102592571150095 : Nat) : Int) from rfl, zland_n (Or.inr (by decide))]
  have b3 : (n2 + n2 / 16) &&& 1085102592571150095 ≤ 1085102592571150095 := Nat.and_le_right
  generalize (n2 + n2 / 16) &&& 1085102592571150095 = n3 at e3 b3 s3
  have sh : ∀ (x : Nat) (k : Nat), x < 2 ^ 62 → (k = 8 ∨ k = 16 ∨ k = 32) → w64 ((x : Int) + zlushr (x : Int) (k : Int)) = ((x + x / 2 ^ k : Nat) : Int) := by
    intro x k hx hk
    have hd : x / 2 ^ k ≤ x := Nat.div_le_self _ _
    rw [zlushr_n (by omega) (by omega)]
    generalize x / 2 ^ k = y at hd ⊢
    rw [w64_i (by omega)]
    omega
  have hd1 : n3 / 256 ≤ n3 / 256 := Nat.le_refl _
  have e4 : lc4 (n3 : Int) = ((n3 + n3 / 256 : Nat) : Int) := sh n3 8 (by omega) (by decide)
  have e5 : lc5 ((n3 + n3 / 256 : Nat) : Int) = (((n3 + n3 / 256) + (n3 + n3 / 256) / 65536 : Nat) : Int) := sh _ 16 (by omega) (by decide)
  have e6 : lc6 (((n3 + n3 / 256) + (n3 + n3 / 256) / 65536 : Nat) : Int) = (((n3 + n3 / 256) + (n3 + n3 / 256) / 65536 + ((n3 + n3 / 256) + (n3 + n3 / 256) / 65536) / 4294967296 : Nat) : Int) := sh _ 32 (by omega) (by decide)
  have em : ∀ a : Int, zand a 127 = a % 128 := fun a => by
    rw [show (127 : Int) = ((127 : Nat) : Int) from rfl, zand_m a (by decide), show (127 : Nat) = 2 ^ 7 - 1 from rfl, Nat.and_two_pow_sub_one_eq_mod]
    omega
  unfold bcL
  rw [e1, e2, e3, e4, e5, e6, em]
  have hp := pl_bytes 8 N
  rw [show 8 * 8 = 64 from rfl] at hp
  rw [hp, s3]
  show w32 _ % 128 = _
  have shp : ∃ z0 z1 z2 z3 z4 z5 z6 z7, toB 8 N = [z0, z1, z2, z3, z4, z5, z6, z7] := ⟨_, _, _, _, _, _, _, _, rfl⟩
  obtain ⟨z0, z1, z2, z3, z4, z5, z6, z7, ez⟩ := shp
  rw [ez] at hL ⊢
  have t0 := byT z0 (hL z0 (by simp))
  have t1 := byT z1 (hL z1 (by simp))
  have t2 := byT z2 (hL z2 (by simp))
  have t3 := byT z3 (hL z3 (by simp))
  have t4 := byT z4 (hL z4 (by simp))
  have t5 := byT z5 (hL z5 (by simp))
  have t6 := byT z6 (hL z6 (by simp))
  have t7 := byT z7 (hL z7 (by simp))
  have eu : unB (List.map by3 (List.map by2 (List.map by1 [z0, z1, z2, z3, z4, z5, z6, z7]))) = 256 * (256 * (256 * (256 * (256 * (256 * (256 * (256 * 0 + pl 8 z7) + pl 8 z6) + pl 8 z5) + pl 8 z4) + pl 8 z3) + pl 8 z2) + pl 8 z1) + pl 8 z0 := by
    rw [← t0.2.2.1, ← t1.2.2.1, ← t2.2.2.1, ← t3.2.2.1, ← t4.2.2.1, ← t5.2.2.1, ← t6.2.2.1, ← t7.2.2.1]; rfl
  have ef : List.foldr (fun z s => pl 8 z + s) 0 [z0, z1, z2, z3, z4, z5, z6, z7] = pl 8 z0 + (pl 8 z1 + (pl 8 z2 + (pl 8 z3 + (pl 8 z4 + (pl 8 z5 + (pl 8 z6 + (pl 8 z7 + 0))))))) := rfl
  rw [eu, ef]
  have q0 := t0.2.2.2
  have q1 := t1.2.2.2
  have q2 := t2.2.2.2
  have q3 := t3.2.2.2
  have q4 := t4.2.2.2
  have q5 := t5.2.2.2
  have q6 := t6.2.2.2
  have q7 := t7.2.2.2
  clear t0 t1 t2 t3 t4 t5 t6 t7 eu ef hL ez s3 s2 s1 e1 e2 e3 e4 e5 e6 hp b3 b2 b1 hd1 sh em hL2 hL1 hlen hU
  generalize pl 8 z0 = p0 at *
  generalize pl 8 z1 = p1 at *
  generalize pl 8 z2 = p2 at *
  generalize pl 8 z3 = p3 at *
  generalize pl 8 z4 = p4 at *
  generalize pl 8 z5 = p5 at *
  generalize pl 8 z6 = p6 at *
  generalize pl 8 z7 = p7 at *
  have g0 : 256 * (256 * (256 * (256 * (256 * (256 * (256 * (256 * 0 + p7) + p6) + p5) + p4) + p3) + p2) + p1) + p0 = p0 + 256 * p1 + 65536 * p2 + 16777216 * p3 + 4294967296 * p4 + 1099511627776 * p5 + 281474976710656 * p6 + 72057594037927936 * p7 := by omega
  rw [g0]
  clear g0
  have g1 : (p0 + 256 * p1 + 65536 * p2 + 16777216 * p3 + 4294967296 * p4 + 1099511627776 * p5 + 281474976710656 * p6 + 72057594037927936 * p7) / 256 = p1 + 256 * p2 + 65536 * p3 + 16777216 * p4 + 4294967296 * p5 + 1099511627776 * p6 + 281474976710656 * p7 := by omega
  rw [g1]
  clear g1
  have g2 : (p0 + 256 * p1 + 65536 * p2 + 16777216 * p3 + 4294967296 * p4 + 1099511627776 * p5 + 281474976710656 * p6 + 72057594037927936 * p7 + (p1 + 256 * p2 + 65536 * p3 + 16777216 * p4 + 4294967296 * p5 + 1099511627776 * p6 + 281474976710656 * p7)) / 65536 = (p2 + p3) + 256 * (p3 + p4) + 65536 * (p4 + p5) + 16777216 * (p5 + p6) + 4294967296 * (p6 + p7) + 1099511627776 * p7 := by omega
  rw [g2]
  clear g2
  have g3 : (p0 + 256 * p1 + 65536 * p2 + 16777216 * p3 + 4294967296 * p4 + 1099511627776 * p5 + 281474976710656 * p6 + 72057594037927936 * p7 + (p1 + 256 * p2 + 65536 * p3 + 16777216 * p4 + 4294967296 * p5 + 1099511627776 * p6 + 281474976710656 * p7) + ((p2 + p3) + 256 * (p3 + p4) + 65536 * (p4 + p5) + 16777216 * (p5 + p6) + 4294967296 * (p6 + p7) + 1099511627776 * p7)) / 4294967296 = (p4 + p5 + p6 + p7) + 256 * (p5 + p6 + p7) + 65536 * (p6 + p7) + 16777216 * p7 := by omega
  rw [g3]
  clear g3
  have g4 : p0 + 256 * p1 + 65536 * p2 + 16777216 * p3 + 4294967296 * p4 + 1099511627776 * p5 + 281474976710656 * p6 + 72057594037927936 * p7 + (p1 + 256 * p2 + 65536 * p3 + 16777216 * p4 + 4294967296 * p5 + 1099511627776 * p6 + 281474976710656 * p7) + ((p2 + p3) + 256 * (p3 + p4) + 65536 * (p4 + p5) + 16777216 * (p5 + p6) + 4294967296 * (p6 + p7) + 1099511627776 * p7) + ((p4 + p5 + p6 + p7) + 256 * (p5 + p6 + p7) + 65536 * (p6 + p7) + 16777216 * p7) = (p0 + (p1 + (p2 + (p3 + (p4 + (p5 + (p6 + (p7 + 0)))))))) + 256 * ((p1 + 256 * p2 + 65536 * p3 + 16777216 * p4 + 4294967296 * p5 + 1099511627776 * p6 + 281474976710656 * p7) + (p2 + 256 * p3 + 65536 * p4 + 16777216 * p5 + 4294967296 * p6 + 1099511627776 * p7) + ((p3 + p4) + 256 * (p4 + p5) + 65536 * (p5 + p6) + 16777216 * (p6 + p7) + 4294967296 * p7) + ((p5 + p6 + p7) + 256 * (p6 + p7) + 65536 * p7)) := by omega
  rw [g4]
  clear g4
  have g5 : p0 + (p1 + (p2 + (p3 + (p4 + (p5 + (p6 + (p7 + 0))))))) ≤ 64 := by omega
  generalize p0 + (p1 + (p2 + (p3 + (p4 + (p5 + (p6 + (p7 + 0))))))) = S at g5 ⊢
  clear q0 q1 q2 q3 q4 q5 q6 q7
  generalize (p1 + 256 * p2 + 65536 * p3 + 16777216 * p4 + 4294967296 * p5 + 1099511627776 * p6 + 281474976710656 * p7) + (p2 + 256 * p3 + 65536 * p4 + 16777216 * p5 + 4294967296 * p6 + 1099511627776 * p7) + ((p3 + p4) + 256 * (p4 + p5) + 65536 * (p5 + p6) + 16777216 * (p6 + p7) + 4294967296 * p7) + ((p5 + p6 + p7) + 256 * (p6 + p7) + 65536 * p7) = Y
  unfold w32
  omega
