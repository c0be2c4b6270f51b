def zI32 (a : Int) : Prop := -2147483648 ≤ a ∧ a < 2147483648
def zI64 (a : Int) : Prop := -9223372036854775808 ≤ a ∧ a < 9223372036854775808
theorem zw32_in (x : Int) : zI32 (w32 x) := by unfold zI32 w32; omega
theorem zw64_in (x : Int) : zI64 (w64 x) := by unfold zI64 w64; omega
theorem zw32_id {x : Int} (h : zI32 x) : w32 x = x := by unfold zI32 at h; unfold w32; omega
theorem zw64_id {x : Int} (h : zI64 x) : w64 x = x := by unfold zI64 at h; unfold w64; omega
theorem zbm32 (x : Int) : x.bmod (2 ^ 32) = w32 x := by unfold w32; simp only [Int.bmod]; omega
theorem zbm64 (x : Int) : x.bmod (2 ^ 64) = w64 x := by unfold w64; simp only [Int.bmod]; omega
theorem zti (x : Int) : (Int32.ofInt x).toInt = w32 x := by rw [Int32.toInt_ofInt, ← zbm32]
theorem ztl (x : Int) : (Int64.ofInt x).toInt = w64 x := by rw [Int64.toInt_ofInt, ← zbm64]
theorem zti' {x : Int} (h : zI32 x) : (Int32.ofInt x).toInt = x := by rw [zti, zw32_id h]
theorem ztl' {x : Int} (h : zI64 x) : (Int64.ofInt x).toInt = x := by rw [ztl, zw64_id h]
theorem zoi (x : Int32) : Int32.ofInt x.toInt = x := Int32.ofInt_toInt x
theorem zol (x : Int64) : Int64.ofInt x.toInt = x := Int64.ofInt_toInt x
theorem zI32_t (x : Int32) : zI32 x.toInt := ⟨Int32.le_toInt x, Int32.toInt_lt x⟩
theorem zI64_t (x : Int64) : zI64 x.toInt := ⟨Int64.le_toInt x, Int64.toInt_lt x⟩
theorem zof {x : Int} {y : Int32} (h : y.toInt = x) : Int32.ofInt x = y := by rw [← h, zoi]
theorem zofl {x : Int} {y : Int64} (h : y.toInt = x) : Int64.ofInt x = y := by rw [← h, zol]
theorem zi_w (x : Int) : Int32.ofInt (w32 x) = Int32.ofInt x := zof (zti x)
theorem zl_w (x : Int) : Int64.ofInt (w64 x) = Int64.ofInt x := zofl (ztl x)
theorem zi_add (a b : Int) : Int32.ofInt (w32 (a + b)) = Int32.ofInt a + Int32.ofInt b := by rw [zi_w, Int32.ofInt_add]
theorem zi_sub (a b : Int) : Int32.ofInt (w32 (a - b)) = Int32.ofInt a - Int32.ofInt b := by rw [zi_w, Int32.ofInt_sub]
theorem zi_mul (a b : Int) : Int32.ofInt (w32 (a * b)) = Int32.ofInt a * Int32.ofInt b := by rw [zi_w, Int32.ofInt_mul]
theorem zi_neg (a : Int) : Int32.ofInt (w32 (-a)) = -Int32.ofInt a := by rw [zi_w, Int32.ofInt_neg]
theorem zl_add (a b : Int) : Int64.ofInt (w64 (a + b)) = Int64.ofInt a + Int64.ofInt b := by rw [zl_w, Int64.ofInt_add]
theorem zl_sub (a b : Int) : Int64.ofInt (w64 (a - b)) = Int64.ofInt a - Int64.ofInt b := by rw [zl_w, Int64.ofInt_sub]
theorem zl_mul (a b : Int) : Int64.ofInt (w64 (a * b)) = Int64.ofInt a * Int64.ofInt b := by rw [zl_w, Int64.ofInt_mul]
theorem zl_neg (a : Int) : Int64.ofInt (w64 (-a)) = -Int64.ofInt a := by rw [zl_w, Int64.ofInt_neg]
theorem zi_div {a b : Int} (ha : zI32 a) (hb : zI32 b) : Int32.ofInt (w32 (a.tdiv b)) = Int32.ofInt a / Int32.ofInt b :=
  zof (by rw [Int32.toInt_div, zti' ha, zti' hb, zbm32])
theorem zl_div {a b : Int} (ha : zI64 a) (hb : zI64 b) : Int64.ofInt (w64 (a.tdiv b)) = Int64.ofInt a / Int64.ofInt b :=
  zofl (by rw [Int64.toInt_div, ztl' ha, ztl' hb, zbm64])
theorem zI32_mod {a b : Int} (ha : zI32 a) (hb : zI32 b) : zI32 (a.tmod b) := by
  have h := zI32_t (Int32.ofInt a % Int32.ofInt b)
  rwa [Int32.toInt_mod, zti' ha, zti' hb] at h
theorem zI64_mod {a b : Int} (ha : zI64 a) (hb : zI64 b) : zI64 (a.tmod b) := by
  have h := zI64_t (Int64.ofInt a % Int64.ofInt b)
  rwa [Int64.toInt_mod, ztl' ha, ztl' hb] at h
theorem zi_rem {a b : Int} (ha : zI32 a) (hb : zI32 b) : Int32.ofInt (a.tmod b) = Int32.ofInt a - Int32.ofInt a / Int32.ofInt b * Int32.ofInt b := by
  rw [← zi_div ha hb, zi_w, ← Int32.ofInt_mul, ← Int32.ofInt_sub]
  congr 1
  rw [Int.tmod_def, Int.mul_comm]
theorem zl_rem {a b : Int} (ha : zI64 a) (hb : zI64 b) : Int64.ofInt (a.tmod b) = Int64.ofInt a - Int64.ofInt a / Int64.ofInt b * Int64.ofInt b := by
  rw [← zl_div ha hb, zl_w, ← Int64.ofInt_mul, ← Int64.ofInt_sub]
  congr 1
  rw [Int.tmod_def, Int.mul_comm]
theorem zi_eq {a b : Int} (ha : zI32 a) (hb : zI32 b) : Int32.ofInt a = Int32.ofInt b ↔ a = b := by
  rw [← Int32.toInt_inj, zti' ha, zti' hb]
theorem zl_eq {a b : Int} (ha : zI64 a) (hb : zI64 b) : Int64.ofInt a = Int64.ofInt b ↔ a = b := by
  rw [← Int64.toInt_inj, ztl' ha, ztl' hb]
theorem zi_lt {a b : Int} (ha : zI32 a) (hb : zI32 b) : Int32.ofInt a < Int32.ofInt b ↔ a < b := by
  rw [Int32.lt_iff_toInt_lt, zti' ha, zti' hb]
theorem zl_lt {a b : Int} (ha : zI64 a) (hb : zI64 b) : Int64.ofInt a < Int64.ofInt b ↔ a < b := by
  rw [Int64.lt_iff_toInt_lt, ztl' ha, ztl' hb]
theorem zi_le {a b : Int} (ha : zI32 a) (hb : zI32 b) : Int32.ofInt a ≤ Int32.ofInt b ↔ a ≤ b := by
  rw [Int32.le_iff_toInt_le, zti' ha, zti' hb]
theorem z0_in : zI32 0 := by unfold zI32; omega
theorem zi_0 : Int32.ofInt 0 = 0 := rfl
theorem zi_l {a : Int} (ha : zI32 a) : (Int32.ofInt a).toInt64 = Int64.ofInt a := by
  rw [← Int64.toInt_inj, Int32.toInt_toInt64, zti' ha, ztl']
  unfold zI32 at ha; unfold zI64; omega
theorem zl_i (a : Int) : (Int64.ofInt a).toInt32 = Int32.ofInt (w32 a) := by
  rw [← Int32.toInt_inj, Int64.toInt_toInt32, zti, ztl, zbm32]
  unfold w32 w64; omega
theorem zi_clamp {a : Int} (ha : zI32 a) : (Int32.ofInt a).toNatClampNeg = a.toNat := by
  show (Int32.ofInt a).toInt.toNat = a.toNat
  rw [zti' ha]
theorem zi_in {i : Int} {n : Nat} (hi : zI32 i) (h0 : 0 ≤ i) (hn : i < n) : vp_in (Int32.ofInt i) n := by
  rw [vp_in_iff, zti' hi]; exact ⟨h0, hn⟩
theorem zI64_of {a : Int} (ha : zI32 a) : zI64 a := by unfold zI32 at ha; unfold zI64; omega
