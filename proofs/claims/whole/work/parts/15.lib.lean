/-! small rows for the functions of part 13, 14 -/
theorem zpo_t {r : Int} {x : zR} (h : 0 ≤ r) : zpo r x = x := by unfold zpo; rw [decide_eq_true h]
theorem zdz_t {b : Int} {x : zR} (h : ¬ b = 0) : zdz b x = x := by unfold zdz; rw [decide_eq_false h]
theorem zbo_t {a : Int} {x : zR} (h : a = 0 ∨ a = 1) : zbo a x = x := by unfold zbo; rw [decide_eq_true h]
theorem zit_t {c : Prop} {dc : Decidable c} {x y : zR} (h : c) : (if c then x else y) = x := if_pos h
theorem zit_f {c : Prop} {dc : Decidable c} {x y : zR} (h : ¬ c) : (if c then x else y) = y := if_neg h
theorem zqi_s {a : Int} {h : zH} {f : Int → zH → zR} : zqi (some (.inl a, h)) f = f a h := rfl
theorem zql_s {a : Int} {h : zH} {f : Int → zH → zR} : zql (some (.inr (.inl a), h)) f = f a h := rfl
theorem zqv_s {v : zV} {h : zH} {f : zH → zR} : zqv (some (v, h)) f = f h := rfl
theorem zqi_i {c : Prop} {dc : Decidable c} {x y : zR} {f : Int → zH → zR} : zqi (if c then x else y) f = if c then zqi x f else zqi y f := by split <;> rfl
theorem zql_i {c : Prop} {dc : Decidable c} {x y : zR} {f : Int → zH → zR} : zql (if c then x else y) f = if c then zql x f else zql y f := by split <;> rfl
theorem zqv_i {c : Prop} {dc : Decidable c} {x y : zR} {f : zH → zR} : zqv (if c then x else y) f = if c then zqv x f else zqv y f := by split <;> rfl
theorem zqi_n {f : Int → zH → zR} : zqi none f = none := rfl
theorem zql_n {f : Int → zH → zR} : zql none f = none := rfl
theorem zqv_n {f : zH → zR} : zqv none f = none := rfl
theorem zlt_e {h : zH} {f : zH → zR} : zlt h f = f h := rfl
theorem w32_i {x : Int} (h : -2147483648 ≤ x ∧ x < 2147483648) : w32 x = x := zw32_id h
theorem w64_i {x : Int} (h : -9223372036854775808 ≤ x ∧ x < 9223372036854775808) : w64 x = x := zw64_id h
theorem zset_e {h : zH} {r i v : Int} : zset h r i v r i = v := by rw [zset_g, if_pos rfl]
theorem zset_j {h : zH} {r i v b : Int} (hb : ¬ b = i) : zset h r i v r b = h r b := by rw [zset_g, if_neg hb]
theorem zset_o {h : zH} {r i v a b : Int} (ha : ¬ a = r) : zset h r i v a b = h a b := by rw [zset_n ha]
theorem zset_2 {h : zH} {r i v a b : Int} (hab : ¬ (a = r ∧ b = i)) : zset h r i v a b = h a b := by
  by_cases e : a = r
  · subst e; exact zset_j (fun q => hab ⟨rfl, q⟩)
  · exact zset_o e
theorem zset_1 {h : zH} {r i v a b : Int} (ha : a = r) (hb : b = i) : zset h r i v a b = v := by subst ha hb; exact zset_e
theorem zset_x {h : zH} {r i v a b : Int} : zset h r i v a b = if a = r ∧ b = i then v else h a b := by
  by_cases e : a = r ∧ b = i
  · rw [if_pos e, zset_1 e.1 e.2]
  · rw [if_neg e, zset_2 e]
theorem zcpy_o {h : zH} {t tp s sp n a b : Int} (ha : ¬ a = t) : zcpy h t tp s sp n a b = h a b := by unfold zcpy; rw [if_neg ha]
theorem zcpy_i {h : zH} {t tp s sp n b : Int} (hb : tp ≤ b ∧ b < tp + n) : zcpy h t tp s sp n t b = h s (sp + (b - tp)) := by unfold zcpy; rw [if_pos rfl, if_pos hb]
theorem zcpy_j {h : zH} {t tp s sp n b : Int} (hb : ¬ (tp ≤ b ∧ b < tp + n)) : zcpy h t tp s sp n t b = h t b := by unfold zcpy; rw [if_pos rfl, if_neg hb]
theorem z01_0 {c : Prop} {dc : Decidable c} : ((if c then (1 : Int) else 0) = 0) = ¬ c := by by_cases h : c <;> simp [h]
theorem z01_1 {c : Prop} {dc : Decidable c} : ((if c then (1 : Int) else 0) = 1) = c := by by_cases h : c <;> simp [h]
theorem zlc_0 {a b : Int} : (zlc a b = 0) = (a = b) := by
  unfold zlc
  by_cases h1 : a < b
  · rw [if_pos h1]; simp; omega
  · rw [if_neg h1]
    by_cases h2 : a = b
    · rw [if_pos h2]; simp [h2]
    · rw [if_neg h2]; simp [h2]
theorem zlc_p {a b : Int} : (0 < zlc a b) = (b < a) := by
  unfold zlc
  by_cases h1 : a < b
  · rw [if_pos h1]; simp; omega
  · rw [if_neg h1]
    by_cases h2 : a = b
    · rw [if_pos h2]; simp; omega
    · rw [if_neg h2]; simp; omega
theorem zlc_m {a b : Int} : (zlc a b < 0) = (a < b) := by
  unfold zlc
  by_cases h1 : a < b
  · rw [if_pos h1]; simp [h1]
  · rw [if_neg h1]
    by_cases h2 : a = b
    · rw [if_pos h2]; simp; omega
    · rw [if_neg h2]; simp; omega
/-! bits of whole numbers (rows that begin with nx_, wb_ began as kit/laws/BITS.to-paste) -/
theorem zn32 (a : Nat) : Int32.ofInt (a : Int) = nI a := by unfold nI; exact Int32.ofInt_eq_ofNat
theorem zn64 (a : Nat) : Int64.ofInt (a : Int) = lN a := by unfold lN; exact Int64.ofInt_eq_ofNat
theorem zsl32 : ∀ n, n < 32 → ((nI n &&& 31).toBitVec.smod 32).toNat = n := by decide +kernel
theorem zsl64 : ∀ n, n < 64 → (((nI n).toInt64 &&& 63).toBitVec.smod 64).toNat = n := by decide +kernel
theorem nx_and (a b : Nat) : nI a &&& nI b = nI (a &&& b) := by
  apply Int32.toBitVec_inj.1
  show BitVec.ofNat 32 a &&& BitVec.ofNat 32 b = BitVec.ofNat 32 (a &&& b)
  apply BitVec.eq_of_getLsbD_eq
  intro i hi
  simp [hi]
theorem nx_or (a b : Nat) : nI a ||| nI b = nI (a ||| b) := by
  apply Int32.toBitVec_inj.1
  show BitVec.ofNat 32 a ||| BitVec.ofNat 32 b = BitVec.ofNat 32 (a ||| b)
  apply BitVec.eq_of_getLsbD_eq
  intro i hi
  simp [hi]
theorem nx_xor (a b : Nat) : nI a ^^^ nI b = nI (a ^^^ b) := by
  apply Int32.toBitVec_inj.1
  show BitVec.ofNat 32 a ^^^ BitVec.ofNat 32 b = BitVec.ofNat 32 (a ^^^ b)
  apply BitVec.eq_of_getLsbD_eq
  intro i hi
  simp [hi]
theorem wx_and (a b : Nat) : lN a &&& lN b = lN (a &&& b) := by
  apply Int64.toBitVec_inj.1
  show BitVec.ofNat 64 a &&& BitVec.ofNat 64 b = BitVec.ofNat 64 (a &&& b)
  apply BitVec.eq_of_getLsbD_eq
  intro i hi
  simp [hi]
theorem wx_or (a b : Nat) : lN a ||| lN b = lN (a ||| b) := by
  apply Int64.toBitVec_inj.1
  show BitVec.ofNat 64 a ||| BitVec.ofNat 64 b = BitVec.ofNat 64 (a ||| b)
  apply BitVec.eq_of_getLsbD_eq
  intro i hi
  simp [hi]
theorem wx_xor (a b : Nat) : lN a ^^^ lN b = lN (a ^^^ b) := by
  apply Int64.toBitVec_inj.1
  show BitVec.ofNat 64 a ^^^ BitVec.ofNat 64 b = BitVec.ofNat 64 (a ^^^ b)
  apply BitVec.eq_of_getLsbD_eq
  intro i hi
  simp [hi]
theorem zlNI {m : Nat} (h : m < 2 ^ 63) : (lN m).toInt = (m : Int) := by rw [← zn64, ztl' (by unfold zI64; omega)]
theorem znNI {m : Nat} (h : m < 2 ^ 31) : (nI m).toInt = (m : Int) := by rw [← zn32, zti' (by unfold zI32; omega)]
theorem zi_nat (a : Int) : Int32.ofInt a = nI (a % 4294967296).toNat := by
  rw [← zn32, ← zi_w a, ← zi_w ((a % 4294967296).toNat : Int)]
  exact congrArg Int32.ofInt (show w32 a = w32 ((a % 4294967296).toNat : Int) from by unfold w32; omega)
theorem zl_nat (a : Int) : Int64.ofInt a = lN (a % 18446744073709551616).toNat := by
  rw [← zn64, ← zl_w a, ← zl_w ((a % 18446744073709551616).toNat : Int)]
  exact congrArg Int64.ofInt (show w64 a = w64 ((a % 18446744073709551616).toNat : Int) from by unfold w64; omega)
theorem zand_n {a b : Nat} (h : a < 2 ^ 31 ∨ b < 2 ^ 31) : zand a b = ((a &&& b : Nat) : Int) := by
  unfold zand
  rw [zn32, zn32, nx_and, znNI]
  rcases h with h | h
  · exact Nat.lt_of_le_of_lt Nat.and_le_left h
  · exact Nat.lt_of_le_of_lt Nat.and_le_right h
theorem zor_n {a b : Nat} (ha : a < 2 ^ 31) (hb : b < 2 ^ 31) : zor a b = ((a ||| b : Nat) : Int) := by
  unfold zor
  rw [zn32, zn32, nx_or, znNI (Nat.or_lt_two_pow ha hb)]
theorem zland_n {a b : Nat} (h : a < 2 ^ 63 ∨ b < 2 ^ 63) : zland a b = ((a &&& b : Nat) : Int) := by
  unfold zland
  rw [zn64, zn64, wx_and, zlNI]
  rcases h with h | h
  · exact Nat.lt_of_le_of_lt Nat.and_le_left h
  · exact Nat.lt_of_le_of_lt Nat.and_le_right h
theorem zlor_n {a b : Nat} (ha : a < 2 ^ 63) (hb : b < 2 ^ 63) : zlor a b = ((a ||| b : Nat) : Int) := by
  unfold zlor
  rw [zn64, zn64, wx_or, zlNI (Nat.or_lt_two_pow ha hb)]
theorem zlxor_n {a b : Nat} (ha : a < 2 ^ 63) (hb : b < 2 ^ 63) : zlxor a b = ((a ^^^ b : Nat) : Int) := by
  unfold zlxor
  rw [zn64, zn64, wx_xor, zlNI (Nat.xor_lt_two_pow ha hb)]
theorem zand_m (a : Int) {b : Nat} (h : b < 2 ^ 31) : zand a b = (((a % 4294967296).toNat &&& b : Nat) : Int) := by
  rw [← zand_n (Or.inr h)]
  unfold zand
  rw [zi_nat a, zn32, zn32]
theorem zand_255 (a : Int) : zand a 255 = a % 256 := by
  rw [show (255 : Int) = ((255 : Nat) : Int) from rfl, zand_m a (by decide), show (255 : Nat) = 2 ^ 8 - 1 from rfl, Nat.and_two_pow_sub_one_eq_mod]
  omega
theorem zand_63 (a : Int) : zand a 63 = a % 64 := by
  rw [show (63 : Int) = ((63 : Nat) : Int) from rfl, zand_m a (by decide), show (63 : Nat) = 2 ^ 6 - 1 from rfl, Nat.and_two_pow_sub_one_eq_mod]
  omega
theorem zand_31 (a : Int) : zand a 31 = a % 32 := by
  rw [show (31 : Int) = ((31 : Nat) : Int) from rfl, zand_m a (by decide), show (31 : Nat) = 2 ^ 5 - 1 from rfl, Nat.and_two_pow_sub_one_eq_mod]
  omega
theorem zand_1 (a : Int) : zand a 1 = a % 2 := by
  rw [show (1 : Int) = ((1 : Nat) : Int) from rfl, zand_m a (by decide), show (1 : Nat) = 2 ^ 1 - 1 from rfl, Nat.and_two_pow_sub_one_eq_mod]
  omega
theorem zland_1 (a : Int) : zland a 1 = a % 2 := by
  unfold zland
  rw [zl_nat a, show (1 : Int) = ((1 : Nat) : Int) from rfl, zn64, wx_and, show (1 : Nat) = 2 ^ 1 - 1 from rfl, Nat.and_two_pow_sub_one_eq_mod, zlNI (by omega)]
  omega
theorem zland_255 (a : Int) : zland a 255 = a % 256 := by
  unfold zland
  rw [zl_nat a, show (255 : Int) = ((255 : Nat) : Int) from rfl, zn64, wx_and, show (255 : Nat) = 2 ^ 8 - 1 from rfl, Nat.and_two_pow_sub_one_eq_mod, zlNI (by omega)]
  omega
theorem zshr_g {a : Int} (ha : zI32 a) {k : Nat} (hk : k < 32) : zshr a k = a / ((2 ^ k : Nat) : Int) := by
  unfold zshr
  rw [zn32 k]
  have e : (Int32.ofInt a >>> (nI k &&& 31)).toInt = (Int32.ofInt a).toInt >>> k := by
    show ((Int32.ofInt a >>> (nI k &&& 31)).toBitVec).toInt = _
    rw [Int32.toBitVec_shiftRight]
    show ((Int32.ofInt a).toBitVec.sshiftRight ((nI k &&& 31).toBitVec.smod 32).toNat).toInt = _
    rw [zsl32 k hk, BitVec.toInt_sshiftRight]
    rfl
  rw [e, zti' ha, Int.shiftRight_eq_div_pow]
theorem zlshr_g {a : Int} (ha : zI64 a) {k : Nat} (hk : k < 64) : zlshr a k = a / ((2 ^ k : Nat) : Int) := by
  unfold zlshr
  rw [zn32 k]
  have e : (Int64.ofInt a >>> ((nI k).toInt64 &&& 63)).toInt = (Int64.ofInt a).toInt >>> k := by
    show ((Int64.ofInt a >>> ((nI k).toInt64 &&& 63)).toBitVec).toInt = _
    rw [Int64.toBitVec_shiftRight]
    show ((Int64.ofInt a).toBitVec.sshiftRight (((nI k).toInt64 &&& 63).toBitVec.smod 64).toNat).toInt = _
    rw [zsl64 k hk, BitVec.toInt_sshiftRight]
    rfl
  rw [e, ztl' ha, Int.shiftRight_eq_div_pow]
theorem zshl_n {a k : Nat} (hk : k < 32) (h : a * 2 ^ k < 2 ^ 31) : zshl a k = ((a * 2 ^ k : Nat) : Int) := by
  unfold zshl
  rw [zn32, zn32]
  have e : nI a <<< (nI k &&& 31) = nI (a * 2 ^ k) := by
    apply Int32.toBitVec_inj.mp
    rw [Int32.toBitVec_shiftLeft]
    show (BitVec.ofNat 32 a) <<< ((nI k &&& 31).toBitVec.smod 32).toNat = BitVec.ofNat 32 (a * 2 ^ k)
    rw [zsl32 k hk]
    apply BitVec.eq_of_toNat_eq
    rw [BitVec.toNat_shiftLeft, BitVec.toNat_ofNat, BitVec.toNat_ofNat, Nat.shiftLeft_eq, Nat.mul_mod, Nat.mod_mod, ← Nat.mul_mod]
  rw [e, znNI h]
theorem zlshl_n {a k : Nat} (hk : k < 64) (h : a * 2 ^ k < 2 ^ 63) : zlshl a k = ((a * 2 ^ k : Nat) : Int) := by
  unfold zlshl
  rw [zn64, zn32]
  have e : lN a <<< ((nI k).toInt64 &&& 63) = lN (a * 2 ^ k) := by
    apply Int64.toBitVec_inj.mp
    rw [Int64.toBitVec_shiftLeft]
    show (BitVec.ofNat 64 a) <<< (((nI k).toInt64 &&& 63).toBitVec.smod 64).toNat = BitVec.ofNat 64 (a * 2 ^ k)
    rw [zsl64 k hk]
    apply BitVec.eq_of_toNat_eq
    rw [BitVec.toNat_shiftLeft, BitVec.toNat_ofNat, BitVec.toNat_ofNat, Nat.shiftLeft_eq, Nat.mul_mod, Nat.mod_mod, ← Nat.mul_mod]
  rw [e, zlNI h]
theorem zsu32 : ∀ n, n < 32 → (((nI n).toUInt32 &&& Int32.toUInt32 31).toBitVec % 32).toNat = n := by decide +kernel
theorem zushr_g (a : Int) {k : Nat} (hk : k < 32) : zushr a k = w32 ((a % 4294967296) / ((2 ^ k : Nat) : Int)) := by
  unfold zushr
  rw [zi_nat a, zn32 k]
  have e : ((nI (a % 4294967296).toNat).toUInt32 >>> ((nI k).toUInt32 &&& Int32.toUInt32 31)).toInt32 = nI ((a % 4294967296).toNat / 2 ^ k) := by
    apply Int32.toBitVec_inj.mp
    show (BitVec.ofNat 32 (a % 4294967296).toNat) >>> (((nI k).toUInt32 &&& Int32.toUInt32 31).toBitVec % 32).toNat = BitVec.ofNat 32 ((a % 4294967296).toNat / 2 ^ k)
    rw [zsu32 k hk]
    apply BitVec.eq_of_toNat_eq
    have h1 : (a % 4294967296).toNat < 2 ^ 32 := by omega
    rw [BitVec.toNat_ushiftRight, BitVec.toNat_ofNat, BitVec.toNat_ofNat, Nat.shiftRight_eq_div_pow, Nat.mod_eq_of_lt h1, Nat.mod_eq_of_lt (Nat.lt_of_le_of_lt (Nat.div_le_self _ _) h1)]
  rw [e, ← zn32, zti]
  congr 1
  rw [Int.natCast_ediv]
  congr 1
  omega
/-! what holds behind a run -/
def zWp (x : zR) (Q : zV → zH → Prop) : Prop := ∃ v h, x = some (v, h) ∧ Q v h
theorem zWp_s {v : zV} {h : zH} {Q : zV → zH → Prop} (q : Q v h) : zWp (some (v, h)) Q := ⟨v, h, rfl, q⟩
theorem zWp_lt {H : zH} {f : zH → zR} {Q : zV → zH → Prop} (k : ∀ h1, h1 = H → zWp (f h1) Q) : zWp (zlt H f) Q := k H rfl
theorem zWp_po {r : Int} {x : zR} {Q : zV → zH → Prop} (h : 0 ≤ r) (k : zWp x Q) : zWp (zpo r x) Q := by rw [zpo_t h]; exact k
theorem zWp_it {c : Prop} {dc : Decidable c} {x y : zR} {Q : zV → zH → Prop} (h : c) (k : zWp x Q) : zWp (if c then x else y) Q := by rw [if_pos h]; exact k
theorem zWp_nt {c : Prop} {dc : Decidable c} {x y : zR} {Q : zV → zH → Prop} (h : ¬ c) (k : zWp y Q) : zWp (if c then x else y) Q := by rw [if_neg h]; exact k
theorem zWp_if {c : Prop} {dc : Decidable c} {x y : zR} {Q : zV → zH → Prop} (k1 : c → zWp x Q) (k2 : ¬ c → zWp y Q) : zWp (if c then x else y) Q := by
  by_cases h : c
  · rw [if_pos h]; exact k1 h
  · rw [if_neg h]; exact k2 h
theorem zWp_dz {r : Int} {x : zR} {Q : zV → zH → Prop} (h : ¬ r = 0) (k : zWp x Q) : zWp (zdz r x) Q := by rw [zdz_t h]; exact k
theorem zWp_bo {r : Int} {x : zR} {Q : zV → zH → Prop} (h : r = 0 ∨ r = 1) (k : zWp x Q) : zWp (zbo r x) Q := by rw [zbo_t h]; exact k
theorem zWp_qi {x : zR} {v : Int} {h : zH} {f : Int → zH → zR} {Q : zV → zH → Prop} (e : x = some (.inl v, h)) (k : zWp (f v h) Q) : zWp (zqi x f) Q := by rw [e]; exact k
theorem zWp_ql {x : zR} {v : Int} {h : zH} {f : Int → zH → zR} {Q : zV → zH → Prop} (e : x = some (.inr (.inl v), h)) (k : zWp (f v h) Q) : zWp (zql x f) Q := by rw [e]; exact k
theorem zWp_qv {x : zR} {v : zV} {h : zH} {f : zH → zR} {Q : zV → zH → Prop} (e : x = some (v, h)) (k : zWp (f h) Q) : zWp (zqv x f) Q := by rw [e]; exact k
theorem zWp_m {x : zR} {Q R : zV → zH → Prop} (k : zWp x Q) (hq : ∀ v h, Q v h → R v h) : zWp x R := by
  obtain ⟨v, h, e, q⟩ := k
  exact ⟨v, h, e, hq v h q⟩
/-- an answer that is an int -/
theorem zWp_bi {x : zR} {f : Int → zH → zR} {P : Int → zH → Prop} {Q : zV → zH → Prop} (k1 : zWp x (fun v h => ∃ a, v = .inl a ∧ P a h)) (k2 : ∀ a h, P a h → zWp (f a h) Q) : zWp (zqi x f) Q := by
  obtain ⟨v, h, e, a, rfl, p⟩ := k1
  exact zWp_qi e (k2 a h p)
theorem zWp_bv {x : zR} {f : zH → zR} {P : zV → zH → Prop} {Q : zV → zH → Prop} (k1 : zWp x P) (k2 : ∀ v h, P v h → zWp (f h) Q) : zWp (zqv x f) Q := by
  obtain ⟨v, h, e, p⟩ := k1
  exact zWp_qv e (k2 v h p)
