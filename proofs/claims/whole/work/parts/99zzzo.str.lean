def js_y_coder : MethodName := ⟨"java/lang/String", "coder", "()B"⟩
theorem js_d_coder_0 : decode prog_18_method_152_code 0 = .ok (.getstatic 38, 3) := by decide +kernel
theorem js_d_coder_3 : decode prog_18_method_152_code 3 = .ok (.ifCond .eq 10, 3) := by decide +kernel
theorem js_d_coder_6 : decode prog_18_method_152_code 6 = .ok (.aload_n 0, 1) := by decide +kernel
theorem js_d_coder_7 : decode prog_18_method_152_code 7 = .ok (.getfield 15, 3) := by decide +kernel
theorem js_d_coder_10 : decode prog_18_method_152_code 10 = .ok (.goto 4, 3) := by decide +kernel
theorem js_d_coder_13 : decode prog_18_method_152_code 13 = .ok (.iconst 1, 1) := by decide +kernel
theorem js_d_coder_14 : decode prog_18_method_152_code 14 = .ok (.ireturn, 1) := by decide +kernel
def js_y_length : MethodName := ⟨"java/lang/String", "length", "()I"⟩
theorem js_d_length_0 : decode prog_18_method_54_code 0 = .ok (.aload_n 0, 1) := by decide +kernel
theorem js_d_length_1 : decode prog_18_method_54_code 1 = .ok (.getfield 9, 3) := by decide +kernel
theorem js_d_length_4 : decode prog_18_method_54_code 4 = .ok (.arraylength, 1) := by decide +kernel
theorem js_d_length_5 : decode prog_18_method_54_code 5 = .ok (.aload_n 0, 1) := by decide +kernel
theorem js_d_length_6 : decode prog_18_method_54_code 6 = .ok (.invokevirtual 335, 3) := by decide +kernel
theorem js_d_length_9 : decode prog_18_method_54_code 9 = .ok (.ishr, 1) := by decide +kernel
theorem js_d_length_10 : decode prog_18_method_54_code 10 = .ok (.ireturn, 1) := by decide +kernel
def js_y_isL : MethodName := ⟨"java/lang/String", "isLatin1", "()Z"⟩
theorem js_d_isL_0 : decode prog_18_method_154_code 0 = .ok (.getstatic 38, 3) := by decide +kernel
theorem js_d_isL_3 : decode prog_18_method_154_code 3 = .ok (.ifCond .eq 14, 3) := by decide +kernel
theorem js_d_isL_6 : decode prog_18_method_154_code 6 = .ok (.aload_n 0, 1) := by decide +kernel
theorem js_d_isL_7 : decode prog_18_method_154_code 7 = .ok (.getfield 15, 3) := by decide +kernel
theorem js_d_isL_10 : decode prog_18_method_154_code 10 = .ok (.ifCond .ne 7, 3) := by decide +kernel
theorem js_d_isL_13 : decode prog_18_method_154_code 13 = .ok (.iconst 1, 1) := by decide +kernel
theorem js_d_isL_14 : decode prog_18_method_154_code 14 = .ok (.goto 4, 3) := by decide +kernel
theorem js_d_isL_17 : decode prog_18_method_154_code 17 = .ok (.iconst 0, 1) := by decide +kernel
theorem js_d_isL_18 : decode prog_18_method_154_code 18 = .ok (.ireturn, 1) := by decide +kernel
def js_y_chk3 : MethodName := ⟨"jdk/internal/util/Preconditions", "checkIndex", "(IILjava/util/function/BiFunction;)I"⟩
theorem js_d_chk3_0 : decode prog_23_method_11_code 0 = .ok (.iload_n 0, 1) := by decide +kernel
theorem js_d_chk3_1 : decode prog_23_method_11_code 1 = .ok (.ifCond .lt 8, 3) := by decide +kernel
theorem js_d_chk3_4 : decode prog_23_method_11_code 4 = .ok (.iload_n 0, 1) := by decide +kernel
theorem js_d_chk3_5 : decode prog_23_method_11_code 5 = .ok (.iload_n 1, 1) := by decide +kernel
theorem js_d_chk3_6 : decode prog_23_method_11_code 6 = .ok (.if_icmp .lt 10, 3) := by decide +kernel
theorem js_d_chk3_9 : decode prog_23_method_11_code 9 = .ok (.aload_n 2, 1) := by decide +kernel
theorem js_d_chk3_10 : decode prog_23_method_11_code 10 = .ok (.iload_n 0, 1) := by decide +kernel
theorem js_d_chk3_11 : decode prog_23_method_11_code 11 = .ok (.iload_n 1, 1) := by decide +kernel
theorem js_d_chk3_12 : decode prog_23_method_11_code 12 = .ok (.invokestatic 95, 3) := by decide +kernel
theorem js_d_chk3_15 : decode prog_23_method_11_code 15 = .ok (.athrow, 1) := by decide +kernel
theorem js_d_chk3_16 : decode prog_23_method_11_code 16 = .ok (.iload_n 0, 1) := by decide +kernel
theorem js_d_chk3_17 : decode prog_23_method_11_code 17 = .ok (.ireturn, 1) := by decide +kernel
def js_y_chk : MethodName := ⟨"java/lang/String", "checkIndex", "(II)V"⟩
theorem js_d_chk_0 : decode prog_18_method_155_code 0 = .ok (.iload_n 0, 1) := by decide +kernel
theorem js_d_chk_1 : decode prog_18_method_155_code 1 = .ok (.iload_n 1, 1) := by decide +kernel
theorem js_d_chk_2 : decode prog_18_method_155_code 2 = .ok (.getstatic 1053, 3) := by decide +kernel
theorem js_d_chk_5 : decode prog_18_method_155_code 5 = .ok (.invokestatic 1059, 3) := by decide +kernel
theorem js_d_chk_8 : decode prog_18_method_155_code 8 = .ok (.pop, 1) := by decide +kernel
theorem js_d_chk_9 : decode prog_18_method_155_code 9 = .ok (.return_, 1) := by decide +kernel
def js_y_chL : MethodName := ⟨"java/lang/StringLatin1", "charAt", "([BI)C"⟩
theorem js_d_chL_0 : decode prog_19_method_2_code 0 = .ok (.iload_n 1, 1) := by decide +kernel
theorem js_d_chL_1 : decode prog_19_method_2_code 1 = .ok (.aload_n 0, 1) := by decide +kernel
theorem js_d_chL_2 : decode prog_19_method_2_code 2 = .ok (.arraylength, 1) := by decide +kernel
theorem js_d_chL_3 : decode prog_19_method_2_code 3 = .ok (.invokestatic 9, 3) := by decide +kernel
theorem js_d_chL_6 : decode prog_19_method_2_code 6 = .ok (.aload_n 0, 1) := by decide +kernel
theorem js_d_chL_7 : decode prog_19_method_2_code 7 = .ok (.iload_n 1, 1) := by decide +kernel
theorem js_d_chL_8 : decode prog_19_method_2_code 8 = .ok (.baload, 1) := by decide +kernel
theorem js_d_chL_9 : decode prog_19_method_2_code 9 = .ok (.sipush 255, 3) := by decide +kernel
theorem js_d_chL_12 : decode prog_19_method_2_code 12 = .ok (.iand, 1) := by decide +kernel
theorem js_d_chL_13 : decode prog_19_method_2_code 13 = .ok (.i2c, 1) := by decide +kernel
theorem js_d_chL_14 : decode prog_19_method_2_code 14 = .ok (.ireturn, 1) := by decide +kernel
def js_y_chA : MethodName := ⟨"java/lang/String", "charAt", "(I)C"⟩
theorem js_d_chA_0 : decode prog_18_method_56_code 0 = .ok (.aload_n 0, 1) := by decide +kernel
theorem js_d_chA_1 : decode prog_18_method_56_code 1 = .ok (.invokevirtual 492, 3) := by decide +kernel
theorem js_d_chA_4 : decode prog_18_method_56_code 4 = .ok (.ifCond .eq 12, 3) := by decide +kernel
theorem js_d_chA_7 : decode prog_18_method_56_code 7 = .ok (.aload_n 0, 1) := by decide +kernel
theorem js_d_chA_8 : decode prog_18_method_56_code 8 = .ok (.getfield 9, 3) := by decide +kernel
theorem js_d_chA_11 : decode prog_18_method_56_code 11 = .ok (.iload_n 1, 1) := by decide +kernel
theorem js_d_chA_12 : decode prog_18_method_56_code 12 = .ok (.invokestatic 495, 3) := by decide +kernel
theorem js_d_chA_15 : decode prog_18_method_56_code 15 = .ok (.ireturn, 1) := by decide +kernel
theorem js_d_chA_16 : decode prog_18_method_56_code 16 = .ok (.aload_n 0, 1) := by decide +kernel
theorem js_d_chA_17 : decode prog_18_method_56_code 17 = .ok (.getfield 9, 3) := by decide +kernel
theorem js_d_chA_20 : decode prog_18_method_56_code 20 = .ok (.iload_n 1, 1) := by decide +kernel
theorem js_d_chA_21 : decode prog_18_method_56_code 21 = .ok (.invokestatic 498, 3) := by decide +kernel
theorem js_d_chA_24 : decode prog_18_method_56_code 24 = .ok (.ireturn, 1) := by decide +kernel
def sbyt : List Int32 := [102, 105, 101, 108, 100, 32, 114, 111, 119, 32, 114, 111, 117, 103, 104, 32, 97, 116, 32, 111, 119, 110, 101, 114, 32, 108, 97, 110, 100, 32, 116, 111, 32, 115, 116, 111, 110, 101, 32, 119, 101, 105, 103, 104, 116, 32, 114, 101, 115, 116, 32, 104, 111, 117, 115, 101, 32, 119, 111, 114, 116, 104, 32, 119, 97, 108, 108, 32, 116, 104, 97, 119, 32, 111, 100, 100, 115, 32, 114, 111, 112, 101, 32, 100, 117, 101, 32, 119, 104, 101, 110, 32, 111, 114, 32, 97, 110, 100, 32, 110, 111, 116, 32, 97, 108, 108, 32, 115, 112, 101, 101, 100, 32, 115, 116, 101, 112, 115, 32, 109, 105, 110, 32, 109, 97, 120]
def sown : String := "field row rough at owner land to stone weight rest house worth wall thaw odds rope due when or and not all speed steps min max"
def sch (k : Nat) : Int32 := ((sbyt.getD k 0 &&& 255).toUInt32 % 65536).toInt32
theorem sch_ok : ∀ k, k < 126 → narrow .char (.int (sch k)) = .int (sch k) := by decide +kernel
abbrev zNo : Nat → Prop := fun _ => False
/-- the text of own words, as it lies in the heap; two statics of the JDK -/
def zStr (A : Nat → Prop) (aK aV : Nat → Nat) (vf : Option Nat) (U : State) (H : Heap) : Prop := vk_S 1 [126] [sbyt] aK aV A U H ∧ va_Z "java/lang/String" "COMPACT_STRINGS" "Z" (.int 1) A U H ∧ va_Z "jdk/internal/util/Preconditions" "SIOOBE_FORMATTER" "Ljava/util/function/BiFunction;" (va_rf vf) A U H
theorem zStr.moved {A : Nat → Prop} {aK aV : Nat → Nat} {vf : Option Nat} {u U : State} {H : Heap} (hvm : u.vm.Alike U.vm) (h : zStr A aK aV vf u H) : zStr A aK aV vf U H := ⟨vk_S.moved hvm h.1, va_Z.moved hvm h.2.1, va_Z.moved hvm h.2.2⟩
theorem zStr.kept {A : Nat → Prop} {aK aV : Nat → Nat} {vf : Option Nat} {U : State} {H H1 : Heap} (h : zStr A aK aV vf U H) (hq : ∀ a : Nat, a < H.size → ¬ A a → H1[a]? = H[a]?) : zStr A aK aV vf U H1 := ⟨vk_S.kept h.1 hq, va_Z.kept h.2.1 hq, va_Z.kept h.2.2 hq⟩
theorem zStr.narrow {A B : Nat → Prop} {aK aV : Nat → Nat} {vf : Option Nat} {U : State} {H : Heap} (h : zStr A aK aV vf U H) (hAB : ∀ q, B q → A q) : zStr B aK aV vf U H := ⟨vk_S.narrow h.1 hAB, va_Z.narrow h.2.1 hAB, va_Z.narrow h.2.2 hAB⟩
theorem zStr.use {A : Nat → Prop} {aK aV : Nat → Nat} {vf : Option Nat} {s U : State} {H : Heap} {locs : List Loc} (h : zStr A aK aV vf s s.heap) (hS : va_S A s.heap H locs) (hU : U.heap = H) (hW : s.WarmedH U.vm) : zStr zNo aK aV vf U U.heap := by
  rw [hU]
  exact ((h.kept hS.2.1).moved hW.alike).narrow (fun _ z => z.elim)
theorem jblind {aK aV : Nat → Nat} {vf : Option Nat} {av : List Value} : FrameBlind (va_Pc av (fun U => zStr zNo aK aV vf U U.heap)) := fun a U g mk q => ⟨q.1, zStr.moved (u := U) (U := U.calling g mk a) (Vm.Alike.refl U.vm) q.2⟩
theorem jblindT {av : List Value} : FrameBlind (va_Pc av (fun _ => True)) := fun a U g mk q => ⟨q.1, True.intro⟩
set_option maxHeartbeats 4000000 in
set_option maxRecDepth 100000 in
/-- String.coder() of the text: 0 -/
theorem js_coder (l : Launch) {aK aV : Nat → Nat} {vf : Option Nat} : Met l js_y_coder (.code js_y_coder prog_18_method_152_code 1 (some .byte) :: lw_g) (zroom 1 0 0) (va_Pc [.ref (aK 0)] (fun U => zStr zNo aK aV vf U U.heap)) (va_Qi (fun (r : Int32) (_ : Unit) => r = 0) (fun _ _ => True) zNo) 0 0 zNo := by
  refine Met.ofW (cc := prog_18_method_152_code) (maxL := 1) (ret := (some .byte)) (by decide +kernel) rfl ?_
  intro p e s m args below meth c s₁ B hml hv
  obtain ⟨rfl, hZ⟩ := hv
  have hx := B.exec
  have hb := B.bytes
  have hr := B.returns
  have hts0 := atoms_spec (ws := .code js_y_coder prog_18_method_152_code 1 (some .byte) :: lw_g) B.pre
  have hts : ∀ w ∈ lw_g, w.before ([.ref (aK 0)] : List Value).toArray s = true := fun w hw => hts0 w (List.mem_cons_of_mem _ hw)
  have hown : s.vm.findClass "java/lang/String" = some m.cls := findClass_of_methodNamed B.named
  have hlocks := B.notSynchronized
  have hS : va_S zNo s.heap s.heap [] := va_S.rf
  have hl := lv_entry ([.ref (aK 0)]) (n := 1) (Nat.le_of_ble_eq_true rfl)
  rw [lg_entry_eq]
  generalize (lg_sl ([.ref (aK 0)]) ++ List.replicate (1 - (lg_sl ([.ref (aK 0)])).length) Slot.unset).toArray = ls at hl ⊢
  have hl : lv_has ls 1 [(0, .ref (aK 0))] := hl
  refine va_gets hx hb hZ.2.1 hS hown (hts (.fieldLink "java/lang/String" 38 "java/lang/String" "COMPACT_STRINGS" "Z") (lw_gi (by decide +kernel) rfl)) (fun _ q => q) js_d_coder_0 ?_
  refine lv_if_eq (tgt := 13) hx hb js_d_coder_3 (by decide) (fun q => absurd q (by decide)) (fun _ => ?_)
  refine lv_aload_n hx hb js_d_coder_6 rfl (lv_at hl 0 rfl) ?_
  refine vk_getf hx hb (hZ.1.1 0 (by decide)).2.1 hS hown (hts (.fieldLink "java/lang/String" 15 "java/lang/String" "coder" "B") (lw_gi (by decide +kernel) rfl)) (fun _ q => q) js_d_coder_7 ?_
  refine lv_goto (tgt := 14) hx hb js_d_coder_10 (by decide) ?_
  exact W.zret (v := 0) hx hb hr rfl (fun t ht hW => ⟨⟨0, (), rfl, rfl, True.intro⟩, hS.F ht⟩) hS.2.2 js_d_coder_14 hlocks
set_option maxHeartbeats 4000000 in
set_option maxRecDepth 100000 in
/-- String.length() of the text: 126 -/
theorem js_length (l : Launch) {aK aV : Nat → Nat} {vf : Option Nat} : Met l js_y_length (.code js_y_length prog_18_method_54_code 1 (some .int) :: lw_g) (zroom 2 0 0) (va_Pc [.ref (aK 0)] (fun U => zStr zNo aK aV vf U U.heap)) (va_Qi (fun (r : Int32) (_ : Unit) => r = 126) (fun _ _ => True) zNo) 0 0 zNo := by
  refine Met.ofW (cc := prog_18_method_54_code) (maxL := 1) (ret := (some .int)) (by decide +kernel) rfl ?_
  intro p e s m args below meth c s₁ B hml hv
  obtain ⟨rfl, hZ⟩ := hv
  have hx := B.exec
  have hb := B.bytes
  have hr := B.returns
  have hts0 := atoms_spec (ws := .code js_y_length prog_18_method_54_code 1 (some .int) :: lw_g) B.pre
  have hts : ∀ w ∈ lw_g, w.before ([.ref (aK 0)] : List Value).toArray s = true := fun w hw => hts0 w (List.mem_cons_of_mem _ hw)
  have hown : s.vm.findClass "java/lang/String" = some m.cls := findClass_of_methodNamed B.named
  have hlocks := B.notSynchronized
  have hS : va_S zNo s.heap s.heap [] := va_S.rf
  have hl := lv_entry ([.ref (aK 0)]) (n := 1) (Nat.le_of_ble_eq_true rfl)
  rw [lg_entry_eq]
  generalize (lg_sl ([.ref (aK 0)]) ++ List.replicate (1 - (lg_sl ([.ref (aK 0)])).length) Slot.unset).toArray = ls at hl ⊢
  have hl : lv_has ls 1 [(0, .ref (aK 0))] := hl
  refine lv_aload_n hx hb js_d_length_0 rfl (lv_at hl 0 rfl) ?_
  refine vk_getf hx hb (hZ.1.1 0 (by decide)).2.2.1 hS hown (hts (.fieldLink "java/lang/String" 9 "java/lang/String" "value" "[B") (lw_gi (by decide +kernel) rfl)) (fun _ q => q) js_d_length_1 ?_
  refine va_tlen hx hb (hZ.1.1 0 (by decide)).2.2.2 hS (v := 126) rfl js_d_length_4 ?_
  refine lv_aload_n hx hb js_d_length_5 rfl (lv_at hl 0 rfl) ?_
  refine va_calli (va_runV (C := "java/lang/String") (b := aK 0) (As := []) (rest := [.int 126]) ⟨hx, hb, hml, hown, hts⟩ (js_coder l (aK := aK) (aV := aV) (vf := vf)) ⟨callB_of 0 hts (zgoodIn lw_good (lw_gi (by decide +kernel) rfl)) rfl rfl rfl (hts (.initialized "java/lang/String") (lw_gi (by decide +kernel) rfl)) (hts (.methodLink "java/lang/String" 335 js_y_coder) (lw_gi (by decide +kernel) rfl)) (by decide +kernel) ⟨Nat.le_of_ble_eq_true rfl, Nat.le_of_ble_eq_true rfl⟩, (hts (.instanceMethod js_y_coder) (lw_gi (by decide +kernel) rfl)), (hts (.selects "java/lang/String" js_y_coder js_y_coder) (lw_gi (by decide +kernel) rfl))⟩ ⟨jblind, vk_recv hZ.1 (by decide) hS, fun U hU hW => ⟨rfl, hZ.use hS hU hW⟩⟩ rfl rfl hl.1 rfl (lv_room (Nat.le_of_ble_eq_true rfl)) js_d_length_6 ⟨Nat.le_of_ble_eq_true rfl, Nat.le_of_ble_eq_true rfl⟩) hS (fun _ _ z => z) (fun _ z => z) (fun r u t H1 locs1 ht hvm hp hB hz hk hS => ?_)
  rw [hp]
  refine lv_ishr hx hb js_d_length_9 ?_
  exact W.iret (v := 126) hx hb hr (fun t ht hW => ⟨⟨126, (), rfl, rfl, True.intro⟩, hS.F ht⟩) hS.2.2 js_d_length_10 hlocks
set_option maxHeartbeats 4000000 in
set_option maxRecDepth 100000 in
/-- String.isLatin1() of the text: true -/
theorem js_isL (l : Launch) {aK aV : Nat → Nat} {vf : Option Nat} : Met l js_y_isL (.code js_y_isL prog_18_method_154_code 1 (some .boolean) :: lw_g) (zroom 1 0 0) (va_Pc [.ref (aK 0)] (fun U => zStr zNo aK aV vf U U.heap)) (va_Qi (fun (r : Int32) (_ : Unit) => r = 1) (fun _ _ => True) zNo) 0 0 zNo := by
  refine Met.ofW (cc := prog_18_method_154_code) (maxL := 1) (ret := (some .boolean)) (by decide +kernel) rfl ?_
  intro p e s m args below meth c s₁ B hml hv
  obtain ⟨rfl, hZ⟩ := hv
  have hx := B.exec
  have hb := B.bytes
  have hr := B.returns
  have hts0 := atoms_spec (ws := .code js_y_isL prog_18_method_154_code 1 (some .boolean) :: lw_g) B.pre
  have hts : ∀ w ∈ lw_g, w.before ([.ref (aK 0)] : List Value).toArray s = true := fun w hw => hts0 w (List.mem_cons_of_mem _ hw)
  have hown : s.vm.findClass "java/lang/String" = some m.cls := findClass_of_methodNamed B.named
  have hlocks := B.notSynchronized
  have hS : va_S zNo s.heap s.heap [] := va_S.rf
  have hl := lv_entry ([.ref (aK 0)]) (n := 1) (Nat.le_of_ble_eq_true rfl)
  rw [lg_entry_eq]
  generalize (lg_sl ([.ref (aK 0)]) ++ List.replicate (1 - (lg_sl ([.ref (aK 0)])).length) Slot.unset).toArray = ls at hl ⊢
  have hl : lv_has ls 1 [(0, .ref (aK 0))] := hl
  refine va_gets hx hb hZ.2.1 hS hown (hts (.fieldLink "java/lang/String" 38 "java/lang/String" "COMPACT_STRINGS" "Z") (lw_gi (by decide +kernel) rfl)) (fun _ q => q) js_d_isL_0 ?_
  refine lv_if_eq (tgt := 17) hx hb js_d_isL_3 (by decide) (fun q => absurd q (by decide)) (fun _ => ?_)
  refine lv_aload_n hx hb js_d_isL_6 rfl (lv_at hl 0 rfl) ?_
  refine vk_getf hx hb (hZ.1.1 0 (by decide)).2.1 hS hown (hts (.fieldLink "java/lang/String" 15 "java/lang/String" "coder" "B") (lw_gi (by decide +kernel) rfl)) (fun _ q => q) js_d_isL_7 ?_
  refine lv_if_ne (tgt := 17) hx hb js_d_isL_10 (by decide) (fun q => absurd rfl q) (fun _ => ?_)
  refine lv_iconst (v := 1) hx hb js_d_isL_13 (by decide) ?_
  refine lv_goto (tgt := 18) hx hb js_d_isL_14 (by decide) ?_
  exact W.zret (v := 1) hx hb hr rfl (fun t ht hW => ⟨⟨1, (), rfl, rfl, True.intro⟩, hS.F ht⟩) hS.2.2 js_d_isL_18 hlocks
set_option maxHeartbeats 4000000 in
set_option maxRecDepth 100000 in
/-- Preconditions.checkIndex in bounds -/
theorem js_chk3 (l : Launch) {aK aV : Nat → Nat} {vf : Option Nat} {x n : Int32} (h0 : ¬ x < 0) (h1 : x < n) : Met l js_y_chk3 (.code js_y_chk3 prog_23_method_11_code 3 (some .int) :: lw_g) (zroom 1 0 0) (va_Pc [.int x, .int n, va_rf vf] (fun U => True)) (va_Qi (fun (r : Int32) (_ : Unit) => r = x) (fun _ _ => True) zNo) 0 0 zNo := by
  cases vf with
  | none =>
    show Met l js_y_chk3 (.code js_y_chk3 prog_23_method_11_code 3 (some .int) :: lw_g) (zroom 1 0 0) (va_Pc [.int x, .int n, .null] (fun U => True)) (va_Qi (fun (r : Int32) (_ : Unit) => r = x) (fun _ _ => True) zNo) 0 0 zNo
    refine Met.ofW (cc := prog_23_method_11_code) (maxL := 3) (ret := (some .int)) (by decide +kernel) rfl ?_
    intro p e s m args below meth c s₁ B hml hv
    obtain ⟨rfl, hZ⟩ := hv
    have hx := B.exec
    have hb := B.bytes
    have hr := B.returns
    have hts0 := atoms_spec (ws := .code js_y_chk3 prog_23_method_11_code 3 (some .int) :: lw_g) B.pre
    have hts : ∀ w ∈ lw_g, w.before ([.int x, .int n, .null] : List Value).toArray s = true := fun w hw => hts0 w (List.mem_cons_of_mem _ hw)
    have hown : s.vm.findClass "jdk/internal/util/Preconditions" = some m.cls := findClass_of_methodNamed B.named
    have hlocks := B.notSynchronized
    have hS : va_S zNo s.heap s.heap [] := va_S.rf
    have hl := lv_entry ([.int x, .int n, .null]) (n := 3) (Nat.le_of_ble_eq_true rfl)
    rw [lg_entry_eq]
    generalize (lg_sl ([.int x, .int n, .null]) ++ List.replicate (3 - (lg_sl ([.int x, .int n, .null])).length) Slot.unset).toArray = ls at hl ⊢
    have hl : lv_has ls 3 [(0, .int x), (1, .int n), (2, .null)] := hl
    refine lv_iload_n hx hb js_d_chk3_0 rfl (lv_at hl 0 rfl) ?_
    refine lv_if_lt (tgt := 9) hx hb js_d_chk3_1 (by decide) (fun q => absurd q h0) (fun _ => ?_)
    refine lv_iload_n hx hb js_d_chk3_4 rfl (lv_at hl 0 rfl) ?_
    refine lv_iload_n hx hb js_d_chk3_5 rfl (lv_at hl 1 rfl) ?_
    refine lv_icmp_lt (tgt := 16) hx hb js_d_chk3_6 (by decide) (fun _ => ?_) (fun q => absurd h1 q)
    refine lv_iload_n hx hb js_d_chk3_16 rfl (lv_at hl 0 rfl) ?_
    exact W.iret (v := x) hx hb hr (fun t ht hW => ⟨⟨x, (), rfl, rfl, True.intro⟩, hS.F ht⟩) hS.2.2 js_d_chk3_17 hlocks
  | some wv =>
    show Met l js_y_chk3 (.code js_y_chk3 prog_23_method_11_code 3 (some .int) :: lw_g) (zroom 1 0 0) (va_Pc [.int x, .int n, .ref wv] (fun U => True)) (va_Qi (fun (r : Int32) (_ : Unit) => r = x) (fun _ _ => True) zNo) 0 0 zNo
    refine Met.ofW (cc := prog_23_method_11_code) (maxL := 3) (ret := (some .int)) (by decide +kernel) rfl ?_
    intro p e s m args below meth c s₁ B hml hv
    obtain ⟨rfl, hZ⟩ := hv
    have hx := B.exec
    have hb := B.bytes
    have hr := B.returns
    have hts0 := atoms_spec (ws := .code js_y_chk3 prog_23_method_11_code 3 (some .int) :: lw_g) B.pre
    have hts : ∀ w ∈ lw_g, w.before ([.int x, .int n, .ref wv] : List Value).toArray s = true := fun w hw => hts0 w (List.mem_cons_of_mem _ hw)
    have hown : s.vm.findClass "jdk/internal/util/Preconditions" = some m.cls := findClass_of_methodNamed B.named
    have hlocks := B.notSynchronized
    have hS : va_S zNo s.heap s.heap [] := va_S.rf
    have hl := lv_entry ([.int x, .int n, .ref wv]) (n := 3) (Nat.le_of_ble_eq_true rfl)
    rw [lg_entry_eq]
    generalize (lg_sl ([.int x, .int n, .ref wv]) ++ List.replicate (3 - (lg_sl ([.int x, .int n, .ref wv])).length) Slot.unset).toArray = ls at hl ⊢
    have hl : lv_has ls 3 [(0, .int x), (1, .int n), (2, .ref wv)] := hl
    refine lv_iload_n hx hb js_d_chk3_0 rfl (lv_at hl 0 rfl) ?_
    refine lv_if_lt (tgt := 9) hx hb js_d_chk3_1 (by decide) (fun q => absurd q h0) (fun _ => ?_)
    refine lv_iload_n hx hb js_d_chk3_4 rfl (lv_at hl 0 rfl) ?_
    refine lv_iload_n hx hb js_d_chk3_5 rfl (lv_at hl 1 rfl) ?_
    refine lv_icmp_lt (tgt := 16) hx hb js_d_chk3_6 (by decide) (fun _ => ?_) (fun q => absurd h1 q)
    refine lv_iload_n hx hb js_d_chk3_16 rfl (lv_at hl 0 rfl) ?_
    exact W.iret (v := x) hx hb hr (fun t ht hW => ⟨⟨x, (), rfl, rfl, True.intro⟩, hS.F ht⟩) hS.2.2 js_d_chk3_17 hlocks
set_option maxHeartbeats 4000000 in
set_option maxRecDepth 100000 in
/-- String.checkIndex in bounds -/
theorem js_chk (l : Launch) {aK aV : Nat → Nat} {vf : Option Nat} {x n : Int32} (h0 : ¬ x < 0) (h1 : x < n) : Met l js_y_chk (.code js_y_chk prog_18_method_155_code 2 none :: lw_g) (zroom 2 0 0) (va_Pc [.int x, .int n] (fun U => zStr zNo aK aV vf U U.heap)) (va_Qv (fun (_ : Unit) => True) (fun _ _ => True) zNo) 0 0 zNo := by
  refine Met.ofW (cc := prog_18_method_155_code) (maxL := 2) (ret := none) (by decide +kernel) rfl ?_
  intro p e s m args below meth c s₁ B hml hv
  obtain ⟨rfl, hZ⟩ := hv
  have hx := B.exec
  have hb := B.bytes
  have hr := B.returns
  have hts0 := atoms_spec (ws := .code js_y_chk prog_18_method_155_code 2 none :: lw_g) B.pre
  have hts : ∀ w ∈ lw_g, w.before ([.int x, .int n] : List Value).toArray s = true := fun w hw => hts0 w (List.mem_cons_of_mem _ hw)
  have hown : s.vm.findClass "java/lang/String" = some m.cls := findClass_of_methodNamed B.named
  have hlocks := B.notSynchronized
  have hS : va_S zNo s.heap s.heap [] := va_S.rf
  have hl := lv_entry ([.int x, .int n]) (n := 2) (Nat.le_of_ble_eq_true rfl)
  rw [lg_entry_eq]
  generalize (lg_sl ([.int x, .int n]) ++ List.replicate (2 - (lg_sl ([.int x, .int n])).length) Slot.unset).toArray = ls at hl ⊢
  have hl : lv_has ls 2 [(0, .int x), (1, .int n)] := hl
  refine lv_iload_n hx hb js_d_chk_0 rfl (lv_at hl 0 rfl) ?_
  refine lv_iload_n hx hb js_d_chk_1 rfl (lv_at hl 1 rfl) ?_
  refine va_gets hx hb hZ.2.2 hS hown (hts (.fieldLink "java/lang/String" 1053 "jdk/internal/util/Preconditions" "SIOOBE_FORMATTER" "Ljava/util/function/BiFunction;") (lw_gi (by decide +kernel) rfl)) (fun _ q => q) js_d_chk_2 ?_
  refine va_calli (va_runS (As := [.int x, .int n, va_rf vf]) (rest := []) ⟨hx, hb, hml, hown, hts⟩ (js_chk3 l (aK := aK) (aV := aV) (vf := vf) h0 h1) ⟨callB_of 3 hts (zgoodIn lw_good (lw_gi (by decide +kernel) rfl)) rfl rfl rfl (hts (.initialized "jdk/internal/util/Preconditions") (lw_gi (by decide +kernel) rfl)) (hts (.methodLink "java/lang/String" 1059 js_y_chk3) (lw_gi (by decide +kernel) rfl)) (by decide +kernel) ⟨Nat.le_of_ble_eq_true rfl, Nat.le_of_ble_eq_true rfl⟩, (hts (.static js_y_chk3) (lw_gi (by decide +kernel) rfl))⟩ ⟨jblindT, fun U hU hW => ⟨rfl, True.intro⟩⟩ rfl rfl hl.1 rfl (lv_room (Nat.le_of_ble_eq_true rfl)) js_d_chk_5 ⟨Nat.le_of_ble_eq_true rfl, Nat.le_of_ble_eq_true rfl⟩) hS (fun _ _ z => z) (fun _ z => z) (fun r u t H1 locs1 ht hvm hp hB hz hk hS => ?_)
  refine lv_pop hx hb js_d_chk_8 rfl ?_
  exact W.vret hx hb hr (fun t ht hW => ⟨⟨(), rfl, True.intro, True.intro⟩, hS.F ht⟩) hS.2.2 js_d_chk_9 hlocks
set_option maxHeartbeats 4000000 in
set_option maxRecDepth 100000 in
/-- StringLatin1.charAt of the text -/
theorem js_chL (l : Launch) {aK aV : Nat → Nat} {vf : Option Nat} {x : Int32} (h0 : ¬ x < 0) (h1 : x < 126) (h2 : x.toNatClampNeg < 126) : Met l js_y_chL (.code js_y_chL prog_19_method_2_code 2 (some .char) :: lw_g) (zroom 3 0 0) (va_Pc [.ref (aV 0), .int x] (fun U => zStr zNo aK aV vf U U.heap)) (va_Qi (fun (r : Int32) (_ : Unit) => r = sch x.toNatClampNeg) (fun _ _ => True) zNo) 0 0 zNo := by
  refine Met.ofW (cc := prog_19_method_2_code) (maxL := 2) (ret := (some .char)) (by decide +kernel) rfl ?_
  intro p e s m args below meth c s₁ B hml hv
  obtain ⟨rfl, hZ⟩ := hv
  have hx := B.exec
  have hb := B.bytes
  have hr := B.returns
  have hts0 := atoms_spec (ws := .code js_y_chL prog_19_method_2_code 2 (some .char) :: lw_g) B.pre
  have hts : ∀ w ∈ lw_g, w.before ([.ref (aV 0), .int x] : List Value).toArray s = true := fun w hw => hts0 w (List.mem_cons_of_mem _ hw)
  have hown : s.vm.findClass "java/lang/StringLatin1" = some m.cls := findClass_of_methodNamed B.named
  have hlocks := B.notSynchronized
  have hS : va_S zNo s.heap s.heap [] := va_S.rf
  have hl := lv_entry ([.ref (aV 0), .int x]) (n := 2) (Nat.le_of_ble_eq_true rfl)
  rw [lg_entry_eq]
  generalize (lg_sl ([.ref (aV 0), .int x]) ++ List.replicate (2 - (lg_sl ([.ref (aV 0), .int x])).length) Slot.unset).toArray = ls at hl ⊢
  have hl : lv_has ls 2 [(0, .ref (aV 0)), (1, .int x)] := hl
  refine lv_iload_n hx hb js_d_chL_0 rfl (lv_at hl 1 rfl) ?_
  refine lv_aload_n hx hb js_d_chL_1 rfl (lv_at hl 0 rfl) ?_
  refine va_tlen hx hb (hZ.1.1 0 (by decide)).2.2.2 hS (v := 126) rfl js_d_chL_2 ?_
  refine va_callv (va_runS (As := [.int x, .int 126]) (rest := []) ⟨hx, hb, hml, hown, hts⟩ (js_chk l (aK := aK) (aV := aV) (vf := vf) h0 h1) ⟨callB_of 2 hts (zgoodIn lw_good (lw_gi (by decide +kernel) rfl)) rfl rfl rfl (hts (.initialized "java/lang/String") (lw_gi (by decide +kernel) rfl)) (hts (.methodLink "java/lang/StringLatin1" 9 js_y_chk) (lw_gi (by decide +kernel) rfl)) (by decide +kernel) ⟨Nat.le_of_ble_eq_true rfl, Nat.le_of_ble_eq_true rfl⟩, (hts (.static js_y_chk) (lw_gi (by decide +kernel) rfl))⟩ ⟨jblind, fun U hU hW => ⟨rfl, hZ.use hS hU hW⟩⟩ rfl rfl hl.1 rfl (lv_room (Nat.le_of_ble_eq_true rfl)) js_d_chL_3 ⟨Nat.le_of_ble_eq_true rfl, Nat.le_of_ble_eq_true rfl⟩) hS (fun _ _ z => z) (fun _ z => z) (fun u t H1 locs1 ht hvm hp hB hz hk hS => ?_)
  refine lv_aload_n hx hb js_d_chL_6 rfl (lv_at hl 0 rfl) ?_
  refine lv_iload_n hx hb js_d_chL_7 rfl (lv_at hl 1 rfl) ?_
  refine va_tb (v := .int (sbyt.getD x.toNatClampNeg 0)) hx hb (hZ.1.1 0 (by decide)).2.2.2 hS (fun q => q.elim h0 (fun z => absurd h2 (Nat.not_lt.mpr z))) rfl js_d_chL_8 ?_
  refine lv_sipush (v := 255) hx hb js_d_chL_9 (by decide) ?_
  refine lv_iand hx hb js_d_chL_12 ?_
  refine lv_i2c (v := sch x.toNatClampNeg) hx hb js_d_chL_13 rfl ?_
  exact W.zret (v := sch x.toNatClampNeg) hx hb hr (sch_ok _ h2) (fun t ht hW => ⟨⟨_, (), rfl, rfl, True.intro⟩, hS.F ht⟩) hS.2.2 js_d_chL_14 hlocks
set_option maxHeartbeats 4000000 in
set_option maxRecDepth 100000 in
/-- String.charAt of the text -/
theorem js_chA (l : Launch) {aK aV : Nat → Nat} {vf : Option Nat} {x : Int32} (h0 : ¬ x < 0) (h1 : x < 126) (h2 : x.toNatClampNeg < 126) : Met l js_y_chA (.code js_y_chA prog_18_method_56_code 2 (some .char) :: lw_g) (zroom 4 0 0) (va_Pc [.ref (aK 0), .int x] (fun U => zStr zNo aK aV vf U U.heap)) (va_Qi (fun (r : Int32) (_ : Unit) => r = sch x.toNatClampNeg) (fun _ _ => True) zNo) 0 0 zNo := by
  refine Met.ofW (cc := prog_18_method_56_code) (maxL := 2) (ret := (some .char)) (by decide +kernel) rfl ?_
  intro p e s m args below meth c s₁ B hml hv
  obtain ⟨rfl, hZ⟩ := hv
  have hx := B.exec
  have hb := B.bytes
  have hr := B.returns
  have hts0 := atoms_spec (ws := .code js_y_chA prog_18_method_56_code 2 (some .char) :: lw_g) B.pre
  have hts : ∀ w ∈ lw_g, w.before ([.ref (aK 0), .int x] : List Value).toArray s = true := fun w hw => hts0 w (List.mem_cons_of_mem _ hw)
  have hown : s.vm.findClass "java/lang/String" = some m.cls := findClass_of_methodNamed B.named
  have hlocks := B.notSynchronized
  have hS : va_S zNo s.heap s.heap [] := va_S.rf
  have hl := lv_entry ([.ref (aK 0), .int x]) (n := 2) (Nat.le_of_ble_eq_true rfl)
  rw [lg_entry_eq]
  generalize (lg_sl ([.ref (aK 0), .int x]) ++ List.replicate (2 - (lg_sl ([.ref (aK 0), .int x])).length) Slot.unset).toArray = ls at hl ⊢
  have hl : lv_has ls 2 [(0, .ref (aK 0)), (1, .int x)] := hl
  refine lv_aload_n hx hb js_d_chA_0 rfl (lv_at hl 0 rfl) ?_
  refine va_calli (va_runV (C := "java/lang/String") (b := aK 0) (As := []) (rest := []) ⟨hx, hb, hml, hown, hts⟩ (js_isL l (aK := aK) (aV := aV) (vf := vf)) ⟨callB_of 0 hts (zgoodIn lw_good (lw_gi (by decide +kernel) rfl)) rfl rfl rfl (hts (.initialized "java/lang/String") (lw_gi (by decide +kernel) rfl)) (hts (.methodLink "java/lang/String" 492 js_y_isL) (lw_gi (by decide +kernel) rfl)) (by decide +kernel) ⟨Nat.le_of_ble_eq_true rfl, Nat.le_of_ble_eq_true rfl⟩, (hts (.instanceMethod js_y_isL) (lw_gi (by decide +kernel) rfl)), (hts (.selects "java/lang/String" js_y_isL js_y_isL) (lw_gi (by decide +kernel) rfl))⟩ ⟨jblind, vk_recv hZ.1 (by decide) hS, fun U hU hW => ⟨rfl, hZ.use hS hU hW⟩⟩ rfl rfl hl.1 rfl (lv_room (Nat.le_of_ble_eq_true rfl)) js_d_chA_1 ⟨Nat.le_of_ble_eq_true rfl, Nat.le_of_ble_eq_true rfl⟩) hS (fun _ _ z => z) (fun _ z => z) (fun r u t H1 locs1 ht hvm hp hB hz hk hS => ?_)
  rw [hp]
  refine lv_if_eq (tgt := 16) hx hb js_d_chA_4 (by decide) (fun q => absurd q (by decide)) (fun _ => ?_)
  refine lv_aload_n hx hb js_d_chA_7 rfl (lv_at hl 0 rfl) ?_
  refine vk_getf hx hb (hZ.1.1 0 (by decide)).2.2.1 hS hown (hts (.fieldLink "java/lang/String" 9 "java/lang/String" "value" "[B") (lw_gi (by decide +kernel) rfl)) (fun _ q => q) js_d_chA_8 ?_
  refine lv_iload_n hx hb js_d_chA_11 rfl (lv_at hl 1 rfl) ?_
  refine va_calli (va_runS (As := [.ref (aV 0), .int x]) (rest := []) ⟨hx, hb, hml, hown, hts⟩ (js_chL l (aK := aK) (aV := aV) (vf := vf) h0 h1 h2) ⟨callB_of 2 hts (zgoodIn lw_good (lw_gi (by decide +kernel) rfl)) rfl rfl rfl (hts (.initialized "java/lang/StringLatin1") (lw_gi (by decide +kernel) rfl)) (hts (.methodLink "java/lang/String" 495 js_y_chL) (lw_gi (by decide +kernel) rfl)) (by decide +kernel) ⟨Nat.le_of_ble_eq_true rfl, Nat.le_of_ble_eq_true rfl⟩, (hts (.static js_y_chL) (lw_gi (by decide +kernel) rfl))⟩ ⟨jblind, fun U hU hW => ⟨rfl, hZ.use hS hU hW⟩⟩ rfl rfl hl.1 rfl (lv_room (Nat.le_of_ble_eq_true rfl)) js_d_chA_12 ⟨Nat.le_of_ble_eq_true rfl, Nat.le_of_ble_eq_true rfl⟩) hS (fun _ _ z => z) (fun _ z => z) (fun r u t H1 locs1 ht hvm hp hB hz hk hS => ?_)
  rw [hp]
  exact W.zret (v := sch x.toNatClampNeg) hx hb hr (sch_ok _ h2) (fun t ht hW => ⟨⟨_, (), rfl, rfl, True.intro⟩, hS.F ht⟩) hS.2.2 js_d_chA_15 hlocks
