/-! the class joins two values, the reference too -/
theorem mul_b {a b : Int} (ha : pM a) (hb : pM b) : -1000000000000 ≤ a * b ∧ a * b ≤ 1000000000000 := by
  unfold pM at ha hb
  have h := Nat.mul_le_mul (show a.natAbs ≤ 1000000 by omega) (show b.natAbs ≤ 1000000 by omega)
  rw [← Int.natAbs_mul] at h
  omega
theorem q_cut {d : Nat} {x : Int} {h : zH} : m_LawBook_cut (d + 2) x h = some (.inl (clA x), h) := by
  have b := cl_b x
  rw [em_LawBook_cut, em_Math_minL]
  unfold clA pM at *
  by_cases c1 : 0 < zlc 1000000 x
  · rw [if_pos c1, zql_s, em_Math_maxL]
    rw [zlc_p] at c1
    by_cases c2 : zlc (-1000000) x < 0
    · rw [if_pos c2, zql_s]
      rw [zlc_m] at c2
      rw [if_neg (show ¬ 1000000 < x by omega), if_neg (show ¬ x < -1000000 by omega), w32_i (by omega)]
    · rw [if_neg c2, zql_s]
      rw [zlc_m] at c2
      rw [if_neg (show ¬ 1000000 < x by omega)]
      by_cases c3 : x < -1000000
      · rw [if_pos c3]; rfl
      · rw [if_neg c3, show x = -1000000 by omega]; rfl
  · rw [if_neg c1, zql_s, em_Math_maxL, if_pos (show zlc (-1000000) 1000000 < 0 by decide), zql_s]
    rw [zlc_p] at c1
    by_cases c3 : 1000000 < x
    · rw [if_pos c3]; rfl
    · rw [if_neg c3, if_neg (show ¬ x < -1000000 by omega), show x = 1000000 by omega]; rfl
theorem zx_s {a b : Int} (ha : zI32 a) (hb : zI32 b) : zxor a b < 0 ↔ ¬ (a < 0 ↔ b < 0) := by
  have e1 : (Int32.ofInt a).toBitVec.msb = decide (a < 0) := by
    rw [BitVec.msb_eq_toInt]
    show decide ((Int32.ofInt a).toInt < 0) = _
    rw [zti' ha]
  have e2 : (Int32.ofInt b).toBitVec.msb = decide (b < 0) := by
    rw [BitVec.msb_eq_toInt]
    show decide ((Int32.ofInt b).toInt < 0) = _
    rw [zti' hb]
  have e3 : decide (zxor a b < 0) = (decide (a < 0) ^^ decide (b < 0)) := by
    unfold zxor
    show decide ((Int32.ofInt a ^^^ Int32.ofInt b).toBitVec.toInt < 0) = _
    rw [← BitVec.msb_eq_toInt, Int32.toBitVec_xor, BitVec.msb_xor, e1, e2]
  constructor
  · intro z
    rw [decide_eq_true z] at e3
    by_cases c1 : a < 0 <;> by_cases c2 : b < 0
    · rw [decide_eq_true c1, decide_eq_true c2] at e3; exact absurd e3 (by decide)
    · exact fun w => c2 (w.1 c1)
    · exact fun w => c1 (w.2 c2)
    · rw [decide_eq_false c1, decide_eq_false c2] at e3; exact absurd e3 (by decide)
  · intro z
    refine Classical.byContradiction fun w => z ?_
    rw [decide_eq_false w] at e3
    by_cases c1 : a < 0 <;> by_cases c2 : b < 0
    · exact ⟨fun _ => c2, fun _ => c1⟩
    · rw [decide_eq_true c1, decide_eq_false c2] at e3; exact absurd e3 (by decide)
    · rw [decide_eq_false c1, decide_eq_true c2] at e3; exact absurd e3 (by decide)
    · exact ⟨fun v => absurd v c1, fun v => absurd v c2⟩
theorem q_fdv {d : Nat} {a b : Int} {h : zH} (ha : pM a) (hb : pM b) (h0 : b ≠ 0) : m_Math_floorDiv (d + 1) a b h = some (.inl (fdA a b), h) := by
  have f := td_f (a := a) h0
  have g := (fd_b ha h0 hb).1
  unfold pM at ha hb
  have e1 : w32 (Int.tdiv a b) = Int.tdiv a b := w32_i (by omega)
  have zs := zx_s (a := a) (b := b) ⟨by omega, by omega⟩ ⟨by omega, by omega⟩
  rw [em_Math_floorDiv, zdz_t h0, e1, Int.mul_comm (Int.tdiv a b) b]
  unfold fdA at g ⊢
  by_cases s : a < 0 ↔ b < 0
  · rw [if_neg (fun z => (zs.1 z) s)]
    by_cases z : Int.tmod a b = 0
    · rw [if_pos z]
    · rw [if_neg z, if_pos s]
  · rw [if_pos (zs.2 s)]
    by_cases z : Int.tmod a b = 0
    · rw [if_pos z, if_pos (by rw [w32_i (by omega)]; omega)]
    · rw [if_neg z, if_neg s, if_neg (by rw [w32_i (by omega)]; omega)]
      rw [if_neg z, if_neg s] at g
      unfold pM at g
      rw [w32_i (by omega)]
theorem q_fmd {d : Nat} {a b : Int} {h : zH} (ha : pM a) (hb : pM b) (h0 : b ≠ 0) : m_Math_floorMod (d + 1) a b h = some (.inl (a - b * fdA a b), h) := by
  have f := td_f (a := a) h0
  unfold pM at ha hb
  have zs := zx_s (a := a) (b := b) ⟨by omega, by omega⟩ ⟨by omega, by omega⟩
  rw [em_Math_floorMod, zdz_t h0]
  unfold fdA
  by_cases s : a < 0 ↔ b < 0
  · rw [if_neg (fun z => (zs.1 z) s)]
    have e : (if Int.tmod a b = 0 then Int.tdiv a b else if (a < 0 ↔ b < 0) then Int.tdiv a b else Int.tdiv a b - 1) = Int.tdiv a b := by
      by_cases z : Int.tmod a b = 0
      · rw [if_pos z]
      · rw [if_neg z, if_pos s]
    rw [e, show a - b * Int.tdiv a b = Int.tmod a b by omega]
  · rw [if_pos (zs.2 s)]
    by_cases z : Int.tmod a b = 0
    · rw [if_pos z, if_pos z, show a - b * Int.tdiv a b = Int.tmod a b by omega]
    · rw [if_neg z, if_neg z, if_neg s, Int.mul_sub, Int.mul_one, w32_i (by omega), show a - (b * Int.tdiv a b - b) = Int.tmod a b + b by omega]
theorem mk_6 {c a b : Int} (h : c = -6) : mkA c a b = clA (a + b) := by
  unfold mkA
  rw [if_pos h]
theorem mk_7 {c a b : Int} (h : c = -7) : mkA c a b = clA (a - b) := by
  unfold mkA
  rw [if_neg (show ¬ c = -6 by omega), if_pos h]
theorem mk_8 {c a b : Int} (h : c = -8) : mkA c a b = clA (a * b) := by
  unfold mkA
  rw [if_neg (show ¬ c = -6 by omega), if_neg (show ¬ c = -7 by omega), if_pos h]
theorem mk_9 {c a b : Int} (h : c = -9) : mkA c a b = (if b = 0 then 0 else fdA a b) := by
  unfold mkA
  rw [if_neg (show ¬ c = -6 by omega), if_neg (show ¬ c = -7 by omega), if_neg (show ¬ c = -8 by omega), if_pos h]
theorem mk_10 {c a b : Int} (h : c = -10) : mkA c a b = (if b = 0 then 0 else a - b * fdA a b) := by
  unfold mkA
  rw [if_neg (show ¬ c = -6 by omega), if_neg (show ¬ c = -7 by omega), if_neg (show ¬ c = -8 by omega), if_neg (show ¬ c = -9 by omega), if_pos h]
theorem mk_11 {c a b : Int} (h : c = -11) : mkA c a b = (if a < b then a else b) := by
  unfold mkA
  rw [if_neg (show ¬ c = -6 by omega), if_neg (show ¬ c = -7 by omega), if_neg (show ¬ c = -8 by omega), if_neg (show ¬ c = -9 by omega), if_neg (show ¬ c = -10 by omega), if_pos h]
theorem mk_12 {c a b : Int} (h : c = -12) : mkA c a b = (if b < a then a else b) := by
  unfold mkA
  rw [if_neg (show ¬ c = -6 by omega), if_neg (show ¬ c = -7 by omega), if_neg (show ¬ c = -8 by omega), if_neg (show ¬ c = -9 by omega), if_neg (show ¬ c = -10 by omega), if_neg (show ¬ c = -11 by omega), if_pos h]
theorem mk_13 {c a b : Int} (h : c = -13) : mkA c a b = (if a < b then 1 else 0) := by
  unfold mkA
  rw [if_neg (show ¬ c = -6 by omega), if_neg (show ¬ c = -7 by omega), if_neg (show ¬ c = -8 by omega), if_neg (show ¬ c = -9 by omega), if_neg (show ¬ c = -10 by omega), if_neg (show ¬ c = -11 by omega), if_neg (show ¬ c = -12 by omega), if_pos h]
theorem mk_14 {c a b : Int} (h : c = -14) : mkA c a b = (if b < a then 1 else 0) := by
  unfold mkA
  rw [if_neg (show ¬ c = -6 by omega), if_neg (show ¬ c = -7 by omega), if_neg (show ¬ c = -8 by omega), if_neg (show ¬ c = -9 by omega), if_neg (show ¬ c = -10 by omega), if_neg (show ¬ c = -11 by omega), if_neg (show ¬ c = -12 by omega), if_neg (show ¬ c = -13 by omega), if_pos h]
theorem mk_15 {c a b : Int} (h : c = -15) : mkA c a b = (if a = b then 1 else 0) := by
  unfold mkA
  rw [if_neg (show ¬ c = -6 by omega), if_neg (show ¬ c = -7 by omega), if_neg (show ¬ c = -8 by omega), if_neg (show ¬ c = -9 by omega), if_neg (show ¬ c = -10 by omega), if_neg (show ¬ c = -11 by omega), if_neg (show ¬ c = -12 by omega), if_neg (show ¬ c = -13 by omega), if_neg (show ¬ c = -14 by omega), if_pos h]
theorem mk_16 {c a b : Int} (h : c = -16) : mkA c a b = a * b := by
  unfold mkA
  rw [if_neg (show ¬ c = -6 by omega), if_neg (show ¬ c = -7 by omega), if_neg (show ¬ c = -8 by omega), if_neg (show ¬ c = -9 by omega), if_neg (show ¬ c = -10 by omega), if_neg (show ¬ c = -11 by omega), if_neg (show ¬ c = -12 by omega), if_neg (show ¬ c = -13 by omega), if_neg (show ¬ c = -14 by omega), if_neg (show ¬ c = -15 by omega), if_pos h]
theorem mk_17 {c a b : Int} (h : c = -17) : mkA c a b = (if 0 < a + b then 1 else 0) := by
  unfold mkA
  rw [if_neg (show ¬ c = -6 by omega), if_neg (show ¬ c = -7 by omega), if_neg (show ¬ c = -8 by omega), if_neg (show ¬ c = -9 by omega), if_neg (show ¬ c = -10 by omega), if_neg (show ¬ c = -11 by omega), if_neg (show ¬ c = -12 by omega), if_neg (show ¬ c = -13 by omega), if_neg (show ¬ c = -14 by omega), if_neg (show ¬ c = -15 by omega), if_neg (show ¬ c = -16 by omega)]
theorem zor_01 {a b : Int} (ha : p01 a) (hb : p01 b) : zor a b = (if 0 < a + b then 1 else 0) := by
  rcases ha with z | z <;> rcases hb with y | y <;> rw [z, y] <;> decide
theorem zand_01 {a b : Int} (ha : p01 a) (hb : p01 b) : zand a b = a * b := by
  rcases ha with z | z <;> rcases hb with y | y <;> rw [z, y] <;> decide
theorem q_join {d : Nat} {c a b : Int} {h : zH} (hc : -17 ≤ c ∧ c ≤ -6) (ha : pM a) (hb : pM b) (hl : c = -16 ∨ c = -17 → p01 a ∧ p01 b) : m_LawBook_join (d + 3) c a b h = some (.inl (mkA c a b), h) := by
  rw [em_LawBook_join]
  by_cases c17 : c = -17
  · have q := hl (Or.inr c17)
    rw [if_pos c17, mk_17 c17, zor_01 q.1 q.2]
  rw [if_neg c17]
  by_cases c16 : c = -16
  · have q := hl (Or.inl c16)
    rw [if_pos c16, mk_16 c16, zand_01 q.1 q.2]
  rw [if_neg c16]
  by_cases c15 : c = -15
  · rw [if_pos c15, mk_15 c15]
    by_cases z : a = b
    · rw [if_pos z, if_pos z, q_oneIf, zqi_s, if_neg (show ¬ (1 : Int) = 0 by decide)]
    · rw [if_neg z, if_neg z, q_oneIf, zqi_s, if_pos rfl]
  rw [if_neg c15]
  by_cases c14 : c = -14
  · rw [if_pos c14, mk_14 c14]
    by_cases z : b < a
    · rw [if_pos z, if_pos z, q_oneIf, zqi_s, if_neg (show ¬ (1 : Int) = 0 by decide)]
    · rw [if_neg z, if_neg z, q_oneIf, zqi_s, if_pos rfl]
  rw [if_neg c14]
  by_cases c13 : c = -13
  · rw [if_pos c13, mk_13 c13]
    by_cases z : a < b
    · rw [if_pos z, if_pos z, q_oneIf, zqi_s, if_neg (show ¬ (1 : Int) = 0 by decide)]
    · rw [if_neg z, if_neg z, q_oneIf, zqi_s, if_pos rfl]
  rw [if_neg c13]
  by_cases c12 : c = -12
  · rw [if_pos c12, mk_12 c12, q_max, zqi_s]
    by_cases z : a < b
    · rw [if_pos z, if_neg (show ¬ b < a by omega)]
    · rw [if_neg z]
      by_cases y : b < a
      · rw [if_pos y]
      · rw [if_neg y, show a = b by omega]
  rw [if_neg c12]
  by_cases c11 : c = -11
  · rw [if_pos c11, mk_11 c11, q_min, zqi_s]
    by_cases z : b < a
    · rw [if_pos z, if_neg (show ¬ a < b by omega)]
    · rw [if_neg z]
      by_cases y : a < b
      · rw [if_pos y]
      · rw [if_neg y, show a = b by omega]
  rw [if_neg c11]
  by_cases c10 : c = -10
  · rw [if_pos c10, mk_10 c10]
    by_cases z : b = 0
    · rw [if_pos z, if_pos z]
    · rw [if_neg z, if_neg z, q_fmd ha hb z, zqi_s]
  rw [if_neg c10]
  by_cases c9 : c = -9
  · rw [if_pos c9, mk_9 c9]
    by_cases z : b = 0
    · rw [if_pos z, if_pos z]
    · rw [if_neg z, if_neg z, q_fdv ha hb z, zqi_s]
  rw [if_neg c9]
  have m := mul_b ha hb
  by_cases c8 : c = -8
  · rw [if_pos c8, mk_8 c8, w64_i (by omega), q_cut, zqi_s]
  rw [if_neg c8]
  unfold pM at ha hb
  by_cases c7 : c = -7
  · rw [if_pos c7, mk_7 c7, w32_i (by omega), q_cut, zqi_s]
  have c6 : c = -6 := by omega
  rw [if_neg c7, if_pos c6, mk_6 c6, w32_i (by omega), q_cut, zqi_s]
theorem q_R_bnd {d : Nat} {x : Int} {h : zH} : m_R_bounded (d + 1) x h = some (.inr (.inl (clA x)), h) := by
  rw [em_R_bounded]
  unfold clA
  by_cases c1 : 1000000 < x
  · rw [if_pos (by rw [zlc_p]; exact c1), if_pos c1]
  rw [if_neg (by rw [zlc_p]; exact c1), if_neg c1]
  by_cases c2 : x < -1000000
  · rw [if_pos (by rw [zlc_m]; exact c2), if_pos c2]
  · rw [if_neg (by rw [zlc_m]; exact c2), if_neg c2]
theorem q_R_ovr {d : Nat} {a b : Int} {h : zH} (ha : pM a) (hb : pM b) : m_R_over (d + 1) a b h = some (.inr (.inl (if b = 0 then 0 else fdA a b)), h) := by
  rw [em_R_over]
  by_cases z : b = 0
  · rw [if_pos (show zlc b 0 = 0 by rw [zlc_0]; exact z), if_pos z]
  have f := td_f (a := a) z
  have g := (fd_b ha z hb).1
  unfold pM at ha hb
  rw [if_neg (show ¬ zlc b 0 = 0 by rw [zlc_0]; exact z), if_neg z, zdz_t z, zdz_t z, w64_i (x := Int.tdiv a b) (by omega)]
  unfold fdA at g ⊢
  by_cases r : Int.tmod a b = 0
  · rw [if_pos (show zlc (Int.tmod a b) 0 = 0 by rw [zlc_0]; exact r), if_pos r]
  rw [if_neg r] at g
  rw [if_neg (show ¬ zlc (Int.tmod a b) 0 = 0 by rw [zlc_0]; exact r), if_neg r]
  by_cases s1 : a < 0 <;> by_cases s2 : b < 0
  · rw [if_pos (show zlc a 0 < 0 by rw [zlc_m]; exact s1), el_R_over_32, if_pos (show zlc b 0 < 0 by rw [zlc_m]; exact s2), el_R_over_43, if_pos rfl, if_pos (show (a < 0 ↔ b < 0) from ⟨fun _ => s2, fun _ => s1⟩)]
  · rw [if_neg (show ¬ (a < 0 ↔ b < 0) from fun w => s2 (w.1 s1))] at g ⊢
    unfold pM at g
    rw [if_pos (show zlc a 0 < 0 by rw [zlc_m]; exact s1), el_R_over_32, if_neg (show ¬ zlc b 0 < 0 by rw [zlc_m]; exact s2), el_R_over_43, if_neg (by decide), w64_i (by omega)]
  · rw [if_neg (show ¬ (a < 0 ↔ b < 0) from fun w => s1 (w.2 s2))] at g ⊢
    unfold pM at g
    rw [if_neg (show ¬ zlc a 0 < 0 by rw [zlc_m]; exact s1), el_R_over_32, if_pos (show zlc b 0 < 0 by rw [zlc_m]; exact s2), el_R_over_43, if_neg (by decide), w64_i (by omega)]
  · rw [if_neg (show ¬ zlc a 0 < 0 by rw [zlc_m]; exact s1), el_R_over_32, if_neg (show ¬ zlc b 0 < 0 by rw [zlc_m]; exact s2), el_R_over_43, if_pos rfl, if_pos (show (a < 0 ↔ b < 0) from ⟨fun v => absurd v s1, fun v => absurd v s2⟩)]
theorem q_R_made {d : Nat} {c a b : Int} {h : zH} (hc : -17 ≤ c ∧ c ≤ -6) (ha : pM a) (hb : pM b) : m_R_made (d + 2) (4 - c) a b h = some (.inr (.inl (mkA c a b)), h) := by
  have m := mul_b ha hb
  have ha' := ha
  have hb' := hb
  unfold pM at ha hb
  rw [em_R_made]
  unfold mkA
  by_cases c6 : c = -6
  · rw [if_pos c6, if_pos (show 4 - c = 10 by omega), w64_i (by omega), q_R_bnd, zql_s]
  rw [if_neg c6, if_neg (show ¬ 4 - c = 10 by omega)]
  by_cases c7 : c = -7
  · rw [if_pos c7, if_pos (show 4 - c = 11 by omega), w64_i (by omega), q_R_bnd, zql_s]
  rw [if_neg c7, if_neg (show ¬ 4 - c = 11 by omega)]
  by_cases c8 : c = -8
  · rw [if_pos c8, if_pos (show 4 - c = 12 by omega), w64_i (by omega), q_R_bnd, zql_s]
  rw [if_neg c8, if_neg (show ¬ 4 - c = 12 by omega)]
  by_cases c9 : c = -9
  · rw [if_pos c9, if_pos (show 4 - c = 13 by omega), q_R_ovr ha' hb', zql_s]
  rw [if_neg c9, if_neg (show ¬ 4 - c = 13 by omega)]
  by_cases c10 : c = -10
  · rw [if_pos c10, if_pos (show 4 - c = 14 by omega)]
    by_cases z : b = 0
    · rw [if_pos (show zlc b 0 = 0 by rw [zlc_0]; exact z), if_pos z]
    · have g := fd_b ha' z hb'
      have g2 := mul_b hb' g.1
      have g3 := g.2
      unfold pM at g3
      rw [if_neg (show ¬ zlc b 0 = 0 by rw [zlc_0]; exact z), if_neg z, q_R_ovr ha' hb', zql_s, if_neg z, w64_i (x := b * fdA a b) (by omega), w64_i (by omega)]
  rw [if_neg c10, if_neg (show ¬ 4 - c = 14 by omega)]
  by_cases c11 : c = -11
  · rw [if_pos c11, if_pos (show 4 - c = 15 by omega)]
    by_cases z : a < b
    · rw [if_pos (show zlc a b < 0 by rw [zlc_m]; exact z), if_pos z]
    · rw [if_neg (show ¬ zlc a b < 0 by rw [zlc_m]; exact z), if_neg z]
  rw [if_neg c11, if_neg (show ¬ 4 - c = 15 by omega)]
  by_cases c12 : c = -12
  · rw [if_pos c12, if_pos (show 4 - c = 16 by omega)]
    by_cases z : b < a
    · rw [if_pos (show 0 < zlc a b by rw [zlc_p]; exact z), if_pos z]
    · rw [if_neg (show ¬ 0 < zlc a b by rw [zlc_p]; exact z), if_neg z]
  rw [if_neg c12, if_neg (show ¬ 4 - c = 16 by omega)]
  by_cases c13 : c = -13
  · rw [if_pos c13, if_pos (show 4 - c = 17 by omega)]
    by_cases z : a < b
    · rw [if_pos (show zlc a b < 0 by rw [zlc_m]; exact z), if_pos z]
    · rw [if_neg (show ¬ zlc a b < 0 by rw [zlc_m]; exact z), if_neg z]
  rw [if_neg c13, if_neg (show ¬ 4 - c = 17 by omega)]
  by_cases c14 : c = -14
  · rw [if_pos c14, if_pos (show 4 - c = 18 by omega)]
    by_cases z : b < a
    · rw [if_pos (show 0 < zlc a b by rw [zlc_p]; exact z), if_pos z]
    · rw [if_neg (show ¬ 0 < zlc a b by rw [zlc_p]; exact z), if_neg z]
  rw [if_neg c14, if_neg (show ¬ 4 - c = 18 by omega)]
  by_cases c15 : c = -15
  · rw [if_pos c15, if_pos (show 4 - c = 19 by omega)]
    by_cases z : a = b
    · rw [if_pos (show zlc a b = 0 by rw [zlc_0]; exact z), if_pos z]
    · rw [if_neg (show ¬ zlc a b = 0 by rw [zlc_0]; exact z), if_neg z]
  rw [if_neg c15, if_neg (show ¬ 4 - c = 19 by omega)]
  by_cases c16 : c = -16
  · rw [if_pos c16, if_pos (show 4 - c = 20 by omega), w64_i (by omega)]
  rw [if_neg c16, if_neg (show ¬ 4 - c = 20 by omega), w64_i (by omega)]
  by_cases z : 0 < a + b
  · rw [if_pos (show 0 < zlc (a + b) 0 by rw [zlc_p]; exact z), if_pos z]
  · rw [if_neg (show ¬ 0 < zlc (a + b) 0 by rw [zlc_p]; exact z), if_neg z]
