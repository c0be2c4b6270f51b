/-! all is in order when both objects are made -/
theorem tz {k : Int} (h0 : 0 ≤ k) (h : (dat zD0 k).2.2.length = 0 ∧ (dat zD0 k).1 < 103) : tH zD0 k = fun _ => 0 := by
  rw [tH_c h0]
  funext i
  unfold dcv ddf
  rw [if_neg (fun z => absurd z.2 (by rw [h.1]; exact Nat.not_lt_zero _)), if_pos h.2]
theorem tg {k : Nat} {j : Nat} {v : Int} (h : dget zD0 k j = v) : tH zD0 k j = v := by rw [tH_g (by omega)]; exact h
def sg0 : zH := fun k i => tH zD0 (11 + k) i
def st0 : zH := fun _ _ => 0
def gg0 : zH := fun k i => if k = 0 then (if i = 2 then 1 else if i = 4 then -1 else 0) else 0
theorem h0_11 : tH zD0 11 = sg0 0 := rfl
theorem s0_w : sg0 0 0 = 0 ∧ sg0 0 1 = 0 := ⟨tg (k := 11) (j := 0) (by decide +kernel), tg (k := 11) (j := 1) (by decide +kernel)⟩
theorem s0_C : nC sg0 = 0 := by unfold nC; rw [s0_w.1, Int.zero_mul]
theorem s0_8 : sg0 8 = fun _ => 0 := tz (k := 19) (by decide) (by decide +kernel)
theorem s0_O : nO sg0 = 0 := by show sg0 8 4 = 0; rw [s0_8]
theorem s0_S : nS sg0 = 0 := by show sg0 8 7 = 0; rw [s0_8]
theorem s0_H : nHo sg0 = 0 := by show sg0 8 10 = 0; rw [s0_8]
theorem s0_T : nT sg0 = 0 := by show sg0 8 13 = 0; rw [s0_8]
theorem s0_R : nRo sg0 = 0 := by show sg0 8 15 = 0; rw [s0_8]
theorem s0_L : nLa sg0 = 0 := by show sg0 8 16 = 0; rw [s0_8]
theorem s0_WS : WS sg0 := by
  unfold WS
  rw [s0_C, s0_O, s0_S, s0_H, s0_T, s0_R, s0_L, s0_w.1, s0_w.2]
  exact ⟨by decide, by decide, fun c a b => by omega, fun c a b => by omega, fun c a b => by omega, fun c a b => by omega, fun c a b => by omega, fun c a b => by omega⟩
theorem s0_WT : WT sg0 st0 := by
  unfold WT
  rw [s0_C, s0_S, s0_H]
  exact ⟨fun c a b => by omega, fun c a b => by omega, fun c a b => by omega⟩
theorem w32_0 : w32 0 = 0 := by decide
theorem w64_0 : w64 0 = 0 := by decide
theorem s0_CT : CT sg0 st0 67 (tH zD0) := by
  refine ⟨Or.inl rfl, fun i a b => ?_, fun c a b => ?_, fun c a b => ?_, fun o a b => ?_, ⟨0, ?_, by decide, fun i => ?_⟩, ⟨0, ?_, by decide, fun i => ?_⟩, ?_⟩
  · rw [tz (k := 67 + 1) (by decide) (by decide +kernel), tz (k := 67 + 2) (by decide) (by decide +kernel), tz (k := 67 + 3) (by decide) (by decide +kernel)]
    exact ⟨rfl, w32_0.symm, w32_0.symm⟩
  · rw [s0_C] at b; omega
  · rw [tz (k := 67 + 5) (by decide) (by decide +kernel), tz (k := 67 + 6) (by decide) (by decide +kernel)]
    exact ⟨rfl, rfl⟩
  · rw [tz (k := 67 + 7) (by decide) (by decide +kernel)]
    exact w32_0.symm
  · exact tg (k := 67) (j := 7) (by decide +kernel)
  · rw [Nat.zero_testBit]
    exact (decide_eq_false (fun z => absurd (show (0 : Int) = 1 from z.2) (by decide))).symm
  · exact tg (k := 67) (j := 8) (by decide +kernel)
  · rw [Nat.zero_testBit]
    exact (decide_eq_false (fun z => absurd (show (0 : Int) = 1 from z.2) (by decide))).symm
  · exact tg (k := 67) (j := 9) (by decide +kernel)
theorem s0_CG : CG gg0 (tH zD0) := by
  refine ⟨⟨tg (k := 0) (j := 1) (by decide +kernel), fun j a b => ?_⟩, ⟨tg (k := 0) (j := 3) (by decide +kernel), fun j a b => ?_⟩, fun i a b => ?_, tg (k := 0) (j := 5) (by decide +kernel), tg (k := 5) (j := 11) (by decide +kernel), tg (k := 5) (j := 12) (by decide +kernel)⟩
  · exact absurd (Int.lt_of_le_of_lt a b) (by decide)
  · exact absurd (Int.lt_of_le_of_lt a b) (by decide)
  · rw [tz (k := 3) (by decide) (by decide +kernel)]
    rfl
theorem s0_RG : RG gg0 (tH zD0) := by
  refine ⟨⟨tg (k := 403) (j := 1) (by decide +kernel), fun j a b => ?_⟩, ⟨tg (k := 403) (j := 93) (by decide +kernel), fun j a b => ?_⟩, fun i a b => ?_, tg (k := 403) (j := 70) (by decide +kernel), tg (k := 403) (j := 10) (by decide +kernel), tg (k := 403) (j := 11) (by decide +kernel)⟩
  · exact absurd (Int.lt_of_le_of_lt a b) (by decide)
  · exact absurd (Int.lt_of_le_of_lt a b) (by decide)
  · rw [tz (k := 441) (by decide) (by decide +kernel)]
    rfl
theorem s0_WG : WG gg0 := ⟨by decide, fun j a b => absurd (Int.lt_of_le_of_lt a b) (by decide), by decide, by decide⟩
theorem kb1 : ∀ i : Nat, i < 3 → dget zD0 83 i = 379 + 8 * i := by decide +kernel
theorem kb2 : ∀ i : Nat, i < 30 → dget zD0 85 i = 86 + 8 * i := by decide +kernel
theorem kb3 : ∀ i : Nat, i < 3 → dget zD0 347 i = 353 + 8 * i := by decide +kernel
theorem kb4 : ∀ i : Nat, i < 3 → dget zD0 23 i = 20 + i ∧ dget zD0 51 i = 48 + i := by decide +kernel
theorem kb5 : ∀ i : Nat, i < 26 → dget zD0 6 i = ownW.getD i 0 := by decide +kernel
theorem s0_CKo : CKo (tH zD0) := by
  refine ⟨fun i a b => ?_, fun i a b => ?_, fun i a b => ?_, fun i a b => ?_, fun i b => ?_⟩
  · obtain ⟨n, rfl⟩ : ∃ n : Nat, i = n := ⟨i.toNat, (Int.toNat_of_nonneg a).symm⟩
    exact tg (k := 83) (kb1 n (by omega))
  · obtain ⟨n, rfl⟩ : ∃ n : Nat, i = n := ⟨i.toNat, (Int.toNat_of_nonneg a).symm⟩
    exact tg (k := 85) (kb2 n (by omega))
  · obtain ⟨n, rfl⟩ : ∃ n : Nat, i = n := ⟨i.toNat, (Int.toNat_of_nonneg a).symm⟩
    exact tg (k := 347) (kb3 n (by omega))
  · obtain ⟨n, rfl⟩ : ∃ n : Nat, i = n := ⟨i.toNat, (Int.toNat_of_nonneg a).symm⟩
    exact ⟨tg (k := 23) (kb4 n (by omega)).1, tg (k := 51) (kb4 n (by omega)).2⟩
  · exact tg (k := 6) (kb5 i b)
theorem s0_CLd : CLd [] (tH zD0) := ⟨⟨tg (k := 67) (j := 9) (by decide +kernel), by decide⟩, fun j x h => by cases h⟩
theorem s0_CRg : CRg sg0 [] (tH zD0) := by
  refine ⟨⟨tg (k := 84) (j := 2) (by decide +kernel), by decide⟩, ?_, fun j k h => by cases h⟩
  rw [show tH zD0 84 1 = 0 from tg (k := 84) (j := 1) (by decide +kernel)]
  decide
theorem s0_7 : tH zD0 0 7 = 11 := tg (k := 0) (j := 7) (by decide +kernel)
theorem s0_LOk : LOk [] := fun l h => by cases h
theorem s0_CI : CI sg0 st0 [] [] (lwF []) gg0 (tH zD0) := by
  unfold CI
  rw [s0_7]
  refine ⟨⟨s0_7, ⟨Or.inl rfl, fun k i _ _ => rfl⟩, s0_CT, s0_WS, s0_WT⟩, ?_, s0_CG, s0_CKo, s0_CLd, s0_CRg, Or.inl (tg (k := 331) (j := 4) (by decide +kernel)), law_C (by decide) s0_LOk ⟨?_, by decide, fun j l h => by cases h⟩⟩
  · rw [show tH zD0 0 8 = 39 from tg (k := 0) (j := 8) (by decide +kernel)]
    decide
  · exact tg (k := 32) (j := 5) (by decide +kernel)
theorem r0_12 : tH zD0 403 12 = 0 := tg (k := 403) (j := 12) (by decide +kernel)
theorem s0_RS : RS sg0 (tH zD0) := by
  unfold RS
  rw [r0_12, s0_C, s0_O, s0_S, s0_H, s0_T, s0_R, s0_L, s0_w.1, s0_w.2, tz (k := 405) (by decide) (by decide +kernel), tz (k := 406) (by decide) (by decide +kernel), tz (k := 413) (by decide) (by decide +kernel), tz (k := 415) (by decide) (by decide +kernel), tz (k := 420) (by decide) (by decide +kernel), tz (k := 424) (by decide) (by decide +kernel), tz (k := 427) (by decide) (by decide +kernel), tz (k := 429) (by decide) (by decide +kernel)]
  exact ⟨Or.inl rfl, ⟨rfl, rfl⟩, fun c a b => by omega, ⟨rfl, rfl, rfl, rfl, rfl, rfl⟩, fun c a b => by omega, fun c a b => by omega, fun c a b => by omega, fun c a b => by omega⟩
theorem s0_RT : RT sg0 st0 0 (tH zD0) := by
  unfold RT
  rw [s0_C, s0_S, s0_H]
  exact ⟨by decide, fun c a b => by omega, fun c a b => by omega, fun c a b => by omega⟩
theorem s0_RI : RI sg0 st0 [] [] (lwF []) gg0 (tH zD0) := by
  refine ⟨⟨s0_RS, s0_RT, s0_WS, s0_WT⟩, s0_RG, ⟨fun o a b => ?_, ⟨?_, by decide⟩, fun j x h => by cases h⟩, ⟨⟨tg (k := 403) (j := 69) (by decide +kernel), by decide⟩, ?_, fun j k h => by cases h⟩, fun d => law_R (Or.inl r0_12) s0_LOk ⟨?_, by decide, fun j l h => by cases h⟩ d, ?_⟩
  · rw [tz (k := 451) (by decide) (by decide +kernel)]
    exact w64_0.symm
  · rw [tz (k := 452) (by decide) (by decide +kernel)]
    rfl
  · rw [show tH zD0 403 68 = 0 from tg (k := 403) (j := 68) (by decide +kernel)]
    decide
  · rw [r0_12, tz (k := 429) (by decide) (by decide +kernel)]
    rfl
  · unfold RNm
    rw [s0_O, s0_S, s0_H]
    exact ⟨fun c a b => by omega, fun c a b => by omega, fun c a b => by omega⟩
theorem s0_INV : INV (tH zD0) := ⟨sg0, st0, [], [], lwF [], gg0, s0_CI, s0_RI, True.intro, s0_WG⟩
/-- the places of what final fields hold -/
def dFin (D : zD) : Bool := (List.range D.length).all (fun k => (List.range (zFT (dat D k).1.toNat).length).all (fun j => !(Nat.beq ((zFT (dat D k).1.toNat).getD j 0) 4) || decide (dget D k j = k + (zFK (dat D k).1.toNat j).2.2)))
theorem zD0_fin : dFin zD0 = true := by decide +kernel
theorem s0_WF (h : zWF false zFT zFK zEL (tH zD0)) : zWF true zFT zFK zEL (tH zD0) := by
  obtain ⟨w1, w2, w3⟩ := h
  refine ⟨w1, w2, fun k hk => ?_⟩
  obtain ⟨c1, c2, c3⟩ := w3 k hk
  refine ⟨c1, c2, fun a => ⟨(c3 a).1, fun j ty ht => ?_⟩⟩
  obtain ⟨f1, f2, f3, f4, -⟩ := (c3 a).2 j ty ht
  refine ⟨f1, f2, f3, f4, fun h4 _ => ?_⟩
  rw [tH_n] at hk
  have ek : zkd (tH zD0) k = (dat zD0 k).1.toNat := by unfold zkd; rw [tH_k (by omega)]
  rw [ek] at ht ⊢
  have g1 := List.all_eq_true.mp zD0_fin k (List.mem_range.mpr (by omega))
  have g2 := List.all_eq_true.mp g1 j (List.mem_range.mpr (List.getElem?_eq_some_iff.mp ht).1)
  rw [List.getD_eq_getElem?_getD, ht, h4] at g2
  have g3 : decide (dget zD0 k j = k + (zFK (dat zD0 k).1.toNat j).2.2) = true := g2
  rw [tH_g (by omega)]
  exact of_decide_eq_true g3
