/-! what holds at the entry: classes, arrays, the text -/
theorem st_arr {s : State} {cA : ClassId} {kA : Class} {comp : ClassId} {ty : FieldType} (h2 : s.vm.classes[cA]? = some kA) (h3 : kA.kind = .array comp ty) : ArrOfT s cA ty := fun N z => ⟨(fun k h => by cases h), kA, h2, comp, h3⟩
theorem st_tys {s : State} {args : Array Value} (hts : ∀ w ∈ lw_tbl, w.before args s = true) : ∃ cs : Nat → ClassId, ∀ (k : Nat) (q : ClassId × FieldType), (ztys cs zSC)[k]? = some q → ArrOfT s q.1 q.2 ∧ va_RA s q.1 q.2 := by
  obtain ⟨c0, k0, p0, a0, b0, d0⟩ := Cond.arrayClass_spec (hts (.arrayClass .int) (by decide +kernel))
  obtain ⟨c1, k1, p1, a1, b1, d1⟩ := Cond.arrayClass_spec (hts (.arrayClass .long) (by decide +kernel))
  obtain ⟨c2, k2, p2, a2, b2, d2⟩ := Cond.arrayClass_spec (hts (.arrayClass .boolean) (by decide +kernel))
  obtain ⟨p3, c3, k3, e3, -, b3, d3, a3⟩ := Cond.arrayOver_spec (hts _ dw_as)
  obtain ⟨p4, c4, k4, e4, -, b4, d4, a4⟩ := arrayOverA_spec (hts _ dw_aa)
  refine ⟨fun k => if k = 100 then c0 else if k = 101 then c1 else if k = 102 then c2 else if k = 103 then c3 else c4, fun k q hq => ?_⟩
  have hk : k < 5 := (List.getElem?_eq_some_iff.mp hq).1
  rcases (show k = 0 ∨ k = 1 ∨ k = 2 ∨ k = 3 ∨ k = 4 by omega) with rfl | rfl | rfl | rfl | rfl
  · cases hq; exact ⟨st_arr b0 d0, a0⟩
  · cases hq; exact ⟨st_arr b1 d1, a1⟩
  · cases hq; exact ⟨st_arr b2 d2, a2⟩
  · cases hq; exact ⟨st_arr b3 d3, k3, p3, b3, d3, e3, a3⟩
  · cases hq; exact ⟨st_arr b4 d4, a4⟩
theorem st_cls {s : State} {args : Array Value} (hts : ∀ w ∈ lw_tbl, w.before args s = true) : ∃ G : va_G, ∀ (c : Nat) (q : vw_C), vwCl[c]? = some q → u_Kn s q.1 q.2.1 q.2.2 (G.1 c) (G.2 c) := by
  have h : ∀ c : Nat, ∃ q : ClassId × (Nat → Nat), c < 13 → u_Kn s (zRX c) (zTX c) (zNX c) q.1 q.2 := by
    intro c
    by_cases hc : c < 13
    · obtain ⟨c1, c2, c3, c4, c5, c6, c7, c8⟩ := clk_all c hc
      obtain ⟨cC, iS, hK⟩ := u_known hts c3 (hts _ c7)
      exact ⟨(cC, iS), fun _ => hK⟩
    · exact ⟨(0, fun _ => 0), fun z => absurd z hc⟩
  obtain ⟨f, hf⟩ := Classical.axiomOfChoice h
  refine ⟨(fun c => (f c).1, fun c => (f c).2), fun c q hq => ?_⟩
  have hc : c < 13 := (List.getElem?_eq_some_iff.mp hq).1
  rw [(clk_all c hc).1] at hq
  cases hq
  exact hf c hc
abbrev sT : Term := .string "BoulderDowry$Tokens" 28
abbrev sV : Term := .field sT "java/lang/String" "value" "[B"
theorem st_el : ((flatC (Jvm.Cond.and given_1 narrow_1)).drop 13).take 126 = (List.range 126).map (fun j => Cond.eq (.elem sV (.int (Int32.ofNat j))) (.int (sbyt.getD j 0))) := by decide +kernel
theorem st_el2 {j : Nat} (hj : j < 126) : Cond.eq (.elem sV (.int (Int32.ofNat j))) (.int (sbyt.getD j 0)) ∈ flatC (Jvm.Cond.and given_1 narrow_1) := by
  have h : Cond.eq (.elem sV (.int (Int32.ofNat j))) (.int (sbyt.getD j 0)) ∈ ((flatC (Jvm.Cond.and given_1 narrow_1)).drop 13).take 126 := by
    rw [st_el]
    exact List.mem_map.mpr ⟨j, List.mem_range.mpr hj, rfl⟩
  exact List.mem_of_mem_drop (List.mem_of_mem_take h)
theorem st_str {s : State} {b : Nat} (hts : ∀ w ∈ lw_tbl, w.before #[Value.ref b] s = true) (hgv : (Jvm.Cond.and given_1 narrow_1).before #[Value.ref b] s = true) : ∃ (aK aV : Nat → Nat) (vf : Option Nat), zStr (fun q => s.heap.size ≤ q) aK aV vf s s.heap ∧ vk_R "BoulderDowry$Tokens" 28 sown (aK 0) s := by
  have hs := flat_of_before _ hgv
  have hA : ∀ a : Nat, a < s.heap.size → ¬ (fun q : Nat => s.heap.size ≤ q) a := fun a ha => Nat.not_le.mpr ha
  obtain ⟨aK, aV, h1, h2⟩ := vk_Sof (N := 1) (tm := fun _ => sT) (len := [126]) (byt := [sbyt]) (A := fun q => s.heap.size ≤ q) (s := s) (args := #[Value.ref b])
    (fun i hi => by obtain rfl : i = 0 := (by omega); decide)
    (fun i hi => hs (.exactly sT "java/lang/String") (by decide +kernel))
    (fun i hi => hs (.eq (.field sT "java/lang/String" "coder" "B") (.int 0)) (by decide +kernel))
    (fun i hi => hs (.arrayOf sV .byte) (by decide +kernel))
    (fun i hi => by obtain rfl : i = 0 := (by omega); exact hs (.eq (.length sV) (.int 126)) (by decide +kernel))
    (fun i hi j hj => by obtain rfl : i = 0 := (by omega); exact hs _ (st_el2 hj))
    (fun i j hi hj hij => absurd (show i = j by omega) hij) hA
  have hz1 : va_Z "java/lang/String" "COMPACT_STRINGS" "Z" (.int 1) (fun q => s.heap.size ≤ q) s s.heap := va_Zof (hts (.laysStatic "java/lang/String" "COMPACT_STRINGS" "Z") (by decide +kernel)) (hts (.initialized "java/lang/String") (by decide +kernel)) (va_eqt (hs (.eq (.static "java/lang/String" "COMPACT_STRINGS" "Z") (.int 1)) (by decide +kernel))) hA
  have hz2 : va_Zq "jdk/internal/util/Preconditions" "SIOOBE_FORMATTER" "Ljava/util/function/BiFunction;" (fun q => s.heap.size ≤ q) s s.heap := va_Zqof (hts (.laysStatic "jdk/internal/util/Preconditions" "SIOOBE_FORMATTER" "Ljava/util/function/BiFunction;") (by decide +kernel)) (hts (.initialized "jdk/internal/util/Preconditions") (by decide +kernel)) (hs (.isRef (.static "jdk/internal/util/Preconditions" "SIOOBE_FORMATTER" "Ljava/util/function/BiFunction;")) (by decide +kernel)) hA
  have hR : vk_R "BoulderDowry$Tokens" 28 sown (aK 0) s := vk_R.of (hts (.stringRef "BoulderDowry$Tokens" 28 sown) (by decide +kernel)) (h2 0 (by decide))
  rcases hz2 with hz2 | ⟨t, hz2⟩
  · exact ⟨aK, aV, none, ⟨h1, hz1, hz2⟩, hR⟩
  · exact ⟨aK, aV, some t, ⟨h1, hz1, hz2⟩, hR⟩
