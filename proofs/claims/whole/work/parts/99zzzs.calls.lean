/-! calls of constructors; calls that read the text -/
def zSC : String := "BoulderDowry$State"
def zAOA (U : State) : Prop := (Cond.arrayOver (.array .int)).before #[] U = true
theorem zAOA.of {A : Array Value} {U : State} (h : (Cond.arrayOver (.array .int)).before A U = true) : zAOA U := h
theorem zAOA.use {A : Array Value} {U : State} (h : zAOA U) : (Cond.arrayOver (.array .int)).before A U = true := h
theorem zAOA.moved {u U : State} (hvm : u.vm.Alike U.vm) (h : zAOA u) : zAOA U := by
  obtain ⟨comp, c, k, h1, h2, h3, h4, h5⟩ := arrayOverA_spec h
  obtain ⟨k', hk', he⟩ := hvm.2.2 _ _ h3
  have hi : (U.vm.classes.findIdx? fun (x : Class) => match x.kind with | .array component _ => component == comp | _ => false) = some c := by
    rw [hvm.findIdx?_eq _ (fun _ => rfl)]; exact h2
  have hkind : k'.kind = .array comp (.array .int) := by rw [he]; exact h4
  have f1 : U.vm.findClass (FieldType.array .int).toString = some comp := by rw [hvm.findClass]; exact h1
  have f2 : U.vm.findClass ("[" ++ (FieldType.array .int).toString) = some c := by rw [hvm.findClass]; exact h5
  unfold zAOA Cond.before Cond.holds
  simp only [Cond.value]
  rw [f1, Option.bind_some]
  refine (congrArg (fun o : Option Nat => (o.bind (fun c => (U.vm.classes[c]?).map fun (k : Class) => match k.kind with | .array _ ty => decide (ty = FieldType.array .int) && decide (U.vm.findClass ("[" ++ (FieldType.array .int).toString) = some c) | _ => false) == some true)) hi).trans ?_
  simp [hk', hkind, f2]
def dPc (aK aV : Nat → Nat) (vf : Option Nat) (G : va_G) (cs : Nat → ClassId) (ad : Nat → Nat) (h : zH) (sz : Nat) : State → Prop := fun U => zPre G vwCl zFT cs zSC ad h sz U ∧ zStr (va_A (zw zFT cs ad h) sz) aK aV vf U U.heap ∧ vk_R "BoulderDowry$Tokens" 28 sown (aK 0) U ∧ va_AO zSC U ∧ zAOA U
/-- the contract of a constructor -/
def dMet (l : Launch) (aK aV : Nat → Nat) (vf : Option Nat) (d : Nat) (M : zMD) (r : Int) (k : Nat) (h h1 : zH) : Prop :=
  zWF false zFT zFK zEL h → zRef h r k 0 → 0 ≤ r → ∀ (G : va_G) (cs : Nat → ClassId) (ad : Nat → Nat) (sz : Nat), Met l M.1 (.code M.1 M.2.1 M.2.2.1 none :: lw_g) (zroom d (zn h1 - zn h) (zsl h1 - zsl h)) (va_Pc [.ref (ad r.toNat)] (dPc aK aV vf G cs ad h sz)) (zQc G vwCl false zFT zFK zEL cs zSC 2 (zn h) ad (va_A (zw zFT cs ad h) sz) (.inl 0, h1)) (zn h1 - zn h) (zsl h1 - zsl h) (va_A (zw zFT cs ad h) sz)
theorem dblind {aK aV : Nat → Nat} {vf : Option Nat} {G : va_G} {cs : Nat → ClassId} {ad : Nat → Nat} {h : zH} {sz : Nat} {av : List Value} : FrameBlind (va_Pc av (dPc aK aV vf G cs ad h sz)) := fun a U g mk q => by
  obtain ⟨q0, ⟨q1, qP, qK, qD⟩, qZ, qR, qO, qA⟩ := q
  exact ⟨q0, ⟨q1, qP, va_K.moved (u := U) (U := U.calling g mk a) (Vm.Alike.refl U.vm) qK, qD⟩, zStr.moved (u := U) (U := U.calling g mk a) (Vm.Alike.refl U.vm) qZ, vk_R.same (u := U) (U := U.calling g mk a) rfl qR, va_AO.moved (u := U) (U := U.calling g mk a) (Vm.Alike.refl U.vm) qO, zAOA.moved (u := U) (U := U.calling g mk a) (Vm.Alike.refl U.vm) qA⟩
theorem zs_callD {p : Program} {l : Launch} {e : Env} {R : Room} {s : State} {m : MethodId} {args : Array Value} {below : List Frame} {meth : Method} {c : Code} {Q : State → Prop} {G : va_G} {A : Nat → Prop} {n0 s0 : Nat} {ad0 : Nat → Nat} {cs : Nat → ClassId} {cc : ByteArray} {pc : Nat} {L : zL} {S : List zV} {aK aV : Nat → Nat} {vf : Option Nat} (hx : p.tables.exec = Jvm.exec) (hb : c.code = cc) (hK : va_K G vwCl (ztys cs zSC) s) (hA : ∀ q, s.heap.size ≤ q → A q) (hts : ∀ w ∈ lw_g, w.before args s = true) {own : String} (hown : s.vm.findClass own = some m.cls) (hml : c.maxLocals = L.length) (hZ : zStr A aK aV vf s s.heap) (hR : vk_R "BoulderDowry$Tokens" 28 sown (aK 0) s) (hAO : va_AO zSC s) (hAA : zAOA s) {idx d : Nat} {M : zMD} {r : Int} {k : Nat} {h h1 : zH} (hM : dMet l aK aV vf d M r k h h1) (hlk : Cond.methodLink own idx M.1 ∈ lw_g) (hin : Cond.instanceMethod M.1 ∈ lw_g) (hnm : M.1.name = "<init>") (hcal : zCal lw_g M.1 M.2.1 M.2.2.1 none 0) (h0 : 0 ≤ r) (hcat : zcat S ≤ 8) (hRm : d + 1 ≤ R.frames ∧ 128 * (d + 1) ≤ R.locals) (hext : zExt h h1) (hf : zn h1 - n0 ≤ R.cells ∧ zsl h1 - s0 ≤ R.slots) (hd : decode cc pc = .ok (.invokespecial idx, 3)) (kk : zAW p l e R s m args below meth c Q G vwCl A s.heap n0 s0 ad0 false zFT zFK zEL cs (pc + 3) L S h1) : zAW p l e R s m args below meth c Q G vwCl A s.heap n0 s0 ad0 false zFT zFK zEL cs pc L (.inr (.inr (r, k, 0)) :: S) h := by
  intro ad H locs ls hSt hL hS hl
  have hmono := zn_mono hext
  have q1 := hSt.2.1.1
  have q2 := hSt.2.1.2.1
  have hS0 : zNS h S := zNS_t hS
  have hr : zRef h r k 0 := zNS_h hS
  refine zafter (SC := zSC) (rk := 2) (res := (.inl 0, h1)) (S := S) (a := ([.ref (ad r.toNat)] : List Value).toArray) hA hSt hL hS0 hl hext ?_ (by unfold zpush; rw [if_pos rfl]; exact kk)
  have hMM := hM hSt.1 hr h0 G cs ad H.size
  have hPK : ∀ U : State, U.heap = H → s.WarmedH U.vm → dPc aK aV vf G cs ad h H.size U := fun U hU hW => ⟨⟨by rw [hU], by rw [hU]; exact hSt.2.2.1, va_K.moved hW.alike hK, hSt.2.2.2.1.weaken (fun _ _ _ _ => trivial)⟩, by rw [hU]; exact ((hZ.kept hSt.2.2.2.2.2.1).moved hW.alike).narrow (zfree hSt hA), vk_R.warm hW hR, va_AO.moved hW.alike hAO, zAOA.moved hW.alike hAA⟩
  have hR2 : (zroom d (zn h1 - zn h) (zsl h1 - zsl h)).frames + 1 ≤ R.frames ∧ 8 + (M.2.2.1 + 11) + (zroom d (zn h1 - zn h) (zsl h1 - zsl h)).locals ≤ R.locals := ⟨hRm.1, by show 8 + (M.2.2.1 + 11) + 128 * d ≤ _; have := hcal.2.2; have := hRm.2; omega⟩
  have hf2 : zn h - n0 + (zn h1 - zn h) ≤ R.cells ∧ zsl h - s0 + (zsl h1 - zsl h) ≤ R.slots := ⟨by have := hf.1; omega, by have := hf.2; omega⟩
  have hcat2 : 2 * (F0 m pc ls ((.inr (.inr (r, k, 0)) :: S : List zV).map (zc ad))).monitorRoom + ((S.map (zc ad)).map fun v => v.category).sum ≤ 8 := lv_room (by rw [zcat_sum]; exact hcat)
  exact va_runI (b := ad r.toNat) (As := []) ⟨hx, hb, hml, hown, hts⟩ hMM ⟨callB_of 0 hts (zgoodIn lw_good hcal.1.1) rfl rfl rfl (hts _ hcal.1.2) (hts _ hlk) hcal.2.1 hR2, hnm, hts _ hin⟩ ⟨dblind, fun U hU hW => ⟨rfl, hPK U hU hW⟩⟩ rfl rfl hl.1 (by rw [show (F0 m pc ls ((.inr (.inr (r, k, 0)) :: S : List zV).map (zc ad))).stack = (.inr (.inr (r, k, 0)) :: S : List zV).map (zc ad) from rfl, List.map_cons, zcr h0]; rfl) hcat2 hd hf2
/-- behind a call that leaves the heap as it was -/
theorem zjret {p : Program} {l : Launch} {e : Env} {R : Room} {s : State} {m : MethodId} {args : Array Value} {below : List Frame} {meth : Method} {c : Code} {Q : State → Prop} {D : va_G} {cl : List vw_C} {A : Nat → Prop} {H0 : Heap} {n0 s0 : Nat} {ad0 : Nat → Nat} {md : Bool} {FT : Nat → List Nat} {FK : Nat → Nat → Nat × Nat × Int} {EL : Nat → Nat × Nat} {cs : Nat → ClassId} {ad : Nat → Nat} {h : zH} {H : Heap} {locs : List Loc} {cells slots pc : Nat} {ls : Array Slot} {st0 rest : List Value} {a : Array Value} {v : Int32} (hr : va_Run p l e R s m args below meth c H locs cells slots 0 0 (F0 m pc ls st0) rest (va_Qi (fun (r : Int32) (_ : Unit) => r = v) (fun _ _ => True) zNo a) zNo) (hSt : zSt D cl A H0 n0 s0 ad0 md FT FK EL cs ad h H locs)
    (kk : ∀ (H1 : Heap) (locs1 : List Loc), zSt D cl A H0 n0 s0 ad0 md FT FK EL cs ad h H1 locs1 → W p l e R s m args below meth c H1 locs1 cells slots Q (F0 m (pc + 3) ls (.int v :: rest))) : W p l e R s m args below meth c H locs cells slots Q (F0 m pc ls st0) :=
  va_calli hr hSt.2.2.2.2 (fun _ _ z => z.elim) (fun _ z => z.elim) (fun r u t H1 locs1 ht hvm hp hB hz hk hS1 => by
    rw [hp]
    exact kk H1 locs1 ⟨hSt.1, hSt.2.1, hSt.2.2.1.kept (fun k x hx => hk x.1 ((hSt.2.2.1 k x hx).lt) (fun z => z)), hSt.2.2.2.1, hS1⟩)
def js_y_wl : MethodName := ⟨"BoulderDowry$Tokens", "withLetter", "(III)I"⟩
theorem js_d_wl_0 : decode prog_12_method_2_code 0 = .ok (.iload_n 0, 1) := by decide +kernel
theorem js_d_wl_1 : decode prog_12_method_2_code 1 = .ok (.iload_n 2, 1) := by decide +kernel
theorem js_d_wl_2 : decode prog_12_method_2_code 2 = .ok (.bipush 97, 2) := by decide +kernel
theorem js_d_wl_4 : decode prog_12_method_2_code 4 = .ok (.isub, 1) := by decide +kernel
theorem js_d_wl_5 : decode prog_12_method_2_code 5 = .ok (.iconst 1, 1) := by decide +kernel
theorem js_d_wl_6 : decode prog_12_method_2_code 6 = .ok (.iadd, 1) := by decide +kernel
theorem js_d_wl_7 : decode prog_12_method_2_code 7 = .ok (.iconst 5, 1) := by decide +kernel
theorem js_d_wl_8 : decode prog_12_method_2_code 8 = .ok (.iconst 5, 1) := by decide +kernel
theorem js_d_wl_9 : decode prog_12_method_2_code 9 = .ok (.iload_n 1, 1) := by decide +kernel
theorem js_d_wl_10 : decode prog_12_method_2_code 10 = .ok (.isub, 1) := by decide +kernel
theorem js_d_wl_11 : decode prog_12_method_2_code 11 = .ok (.imul, 1) := by decide +kernel
theorem js_d_wl_12 : decode prog_12_method_2_code 12 = .ok (.ishl, 1) := by decide +kernel
theorem js_d_wl_13 : decode prog_12_method_2_code 13 = .ok (.ior, 1) := by decide +kernel
theorem js_d_wl_14 : decode prog_12_method_2_code 14 = .ok (.ireturn, 1) := by decide +kernel
set_option maxHeartbeats 4000000 in
set_option maxRecDepth 100000 in
theorem js_wl (l : Launch) (a b x : Int32) : Met l js_y_wl (.code js_y_wl prog_12_method_2_code 3 (some .int) :: lw_g) (zroom 1 0 0) (va_Pc [.int a, .int b, .int x] (fun U => True)) (va_Qi (fun (r : Int32) (_ : Unit) => r = a ||| ((x - 97 + 1) <<< ((5 * (5 - b)) &&& 31))) (fun _ _ => True) zNo) 0 0 zNo := by
  refine Met.ofW (cc := prog_12_method_2_code) (maxL := 3) (ret := (some .int)) (by decide +kernel) rfl ?_
  intro p e s m args below meth c s₁ B hml hv
  obtain ⟨rfl, hZ⟩ := hv
  have hx := B.exec
  have hb := B.bytes
  have hr := B.returns
  have hlocks := B.notSynchronized
  have hS : va_S zNo s.heap s.heap [] := va_S.rf
  have hl := lv_entry ([.int a, .int b, .int x]) (n := 3) (Nat.le_of_ble_eq_true rfl)
  rw [lg_entry_eq]
  generalize (lg_sl ([.int a, .int b, .int x]) ++ List.replicate (3 - (lg_sl ([.int a, .int b, .int x])).length) Slot.unset).toArray = ls at hl ⊢
  have hl : lv_has ls 3 [(0, .int a), (1, .int b), (2, .int x)] := hl
  refine lv_iload_n hx hb js_d_wl_0 rfl (lv_at hl 0 rfl) ?_
  refine lv_iload_n hx hb js_d_wl_1 rfl (lv_at hl 2 rfl) ?_
  refine lv_bipush (v := 97) hx hb js_d_wl_2 (by decide) ?_
  refine lv_isub hx hb js_d_wl_4 ?_
  refine lv_iconst (v := 1) hx hb js_d_wl_5 (by decide) ?_
  refine lv_iadd hx hb js_d_wl_6 ?_
  refine lv_iconst (v := 5) hx hb js_d_wl_7 (by decide) ?_
  refine lv_iconst (v := 5) hx hb js_d_wl_8 (by decide) ?_
  refine lv_iload_n hx hb js_d_wl_9 rfl (lv_at hl 1 rfl) ?_
  refine lv_isub hx hb js_d_wl_10 ?_
  refine lv_imul hx hb js_d_wl_11 ?_
  refine lv_ishl hx hb js_d_wl_12 ?_
  refine lv_ior hx hb js_d_wl_13 ?_
  exact W.iret hx hb hr (fun t ht hW => ⟨⟨_, (), rfl, rfl, True.intro⟩, hS.F ht⟩) hS.2.2 js_d_wl_14 hlocks
set_option maxRecDepth 10000 in
theorem js_cm_wl : Cond.code js_y_wl prog_12_method_2_code 3 (some .int) ∈ lw_g := lw_gi cm_104 rfl
theorem zs_wl {p : Program} {l : Launch} {e : Env} {R : Room} {s : State} {m : MethodId} {args : Array Value} {below : List Frame} {meth : Method} {c : Code} {Q : State → Prop} {G : va_G} {A : Nat → Prop} {n0 s0 : Nat} {ad0 : Nat → Nat} {cs : Nat → ClassId} {cc : ByteArray} {pc : Nat} {L : zL} {S : List zV} {aK aV : Nat → Nat} {vf : Option Nat} (hx : p.tables.exec = Jvm.exec) (hb : c.code = cc) (hK : va_K G vwCl (ztys cs zSC) s) (hA : ∀ q, s.heap.size ≤ q → A q) (hts : ∀ w ∈ lw_g, w.before args s = true) {own : String} (hown : s.vm.findClass own = some m.cls) (hml : c.maxLocals = L.length) (hZ : zStr A aK aV vf s s.heap) (hR : vk_R "BoulderDowry$Tokens" 28 sown (aK 0) s) (hAO : va_AO zSC s) (hAA : zAOA s) (ho : own = "BoulderDowry$Tokens") {a b x : Int} {h : zH} (hcat : zcat S ≤ 8) (hRm : 5 ≤ R.frames ∧ 640 ≤ R.locals) (hf : zn h - n0 ≤ R.cells ∧ zsl h - s0 ≤ R.slots) (hd : decode cc pc = .ok (.invokestatic 40, 3)) (kk : zAW p l e R s m args below meth c Q G vwCl A s.heap n0 s0 ad0 false zFT zFK zEL cs (pc + 3) L (.inl (dwl a b x) :: S) h) : zAW p l e R s m args below meth c Q G vwCl A s.heap n0 s0 ad0 false zFT zFK zEL cs pc L (.inl x :: .inl b :: .inl a :: S) h := by
  intro ad H locs ls hSt hL hS hl
  subst ho
  have hcat2 : 2 * (F0 m pc ls ((.inl x :: .inl b :: .inl a :: S : List zV).map (zc ad))).monitorRoom + ((S.map (zc ad)).map fun v => v.category).sum ≤ 8 := lv_room (by rw [zcat_sum]; exact hcat)
  refine zjret (va_runS (As := [.int (Int32.ofInt a), .int (Int32.ofInt b), .int (Int32.ofInt x)]) (rest := S.map (zc ad)) ⟨hx, hb, hml, hown, hts⟩ (js_wl l (Int32.ofInt a) (Int32.ofInt b) (Int32.ofInt x)) ⟨callB_of 3 hts (zgoodIn lw_good js_cm_wl) rfl rfl rfl (hts (.initialized "BoulderDowry$Tokens") (lw_gi (by decide +kernel) rfl)) (hts (.methodLink "BoulderDowry$Tokens" 40 js_y_wl) (lw_gi (by decide +kernel) rfl)) (by decide +kernel) ⟨by show 1 + 1 ≤ _; omega, by show 8 + (3 + 11) + 128 * 1 ≤ _; omega⟩, (hts (.static js_y_wl) (lw_gi (by decide +kernel) rfl))⟩ ⟨jblindT, fun U hU hW => ⟨rfl, True.intro⟩⟩ rfl rfl hl.1 rfl hcat2 hd ⟨hf.1, hf.2⟩) hSt (fun H1 locs1 hSt1 => ?_)
  have k2 := kk ad H1 locs1 ls hSt1 hL (zNS_c (v := .inl (dwl a b x)) (zI32_t _) (zNS_t (zNS_t (zNS_t hS)))) hl
  have e : zc ad (.inl (dwl a b x)) = .int _ := congrArg Value.int (zoi _)
  rw [List.map_cons, e] at k2
  exact k2
theorem zs_slen {p : Program} {l : Launch} {e : Env} {R : Room} {s : State} {m : MethodId} {args : Array Value} {below : List Frame} {meth : Method} {c : Code} {Q : State → Prop} {G : va_G} {A : Nat → Prop} {n0 s0 : Nat} {ad0 : Nat → Nat} {cs : Nat → ClassId} {cc : ByteArray} {pc : Nat} {L : zL} {S : List zV} {aK aV : Nat → Nat} {vf : Option Nat} (hx : p.tables.exec = Jvm.exec) (hb : c.code = cc) (hK : va_K G vwCl (ztys cs zSC) s) (hA : ∀ q, s.heap.size ≤ q → A q) (hts : ∀ w ∈ lw_g, w.before args s = true) {own : String} (hown : s.vm.findClass own = some m.cls) (hml : c.maxLocals = L.length) (hZ : zStr A aK aV vf s s.heap) (hR : vk_R "BoulderDowry$Tokens" 28 sown (aK 0) s) (hAO : va_AO zSC s) (hAA : zAOA s) (ho : own = "BoulderDowry$Tokens") {h : zH} (hcat : zcat S ≤ 8) (hRm : 5 ≤ R.frames ∧ 640 ≤ R.locals) (hf : zn h - n0 ≤ R.cells ∧ zsl h - s0 ≤ R.slots) (hd : decode cc pc = .ok (.ldc 28, 2)) (hd2 : decode cc (pc + 2) = .ok (.invokevirtual 30, 3)) (kk : zAW p l e R s m args below meth c Q G vwCl A s.heap n0 s0 ad0 false zFT zFK zEL cs (pc + 5) L (.inl 126 :: S) h) : zAW p l e R s m args below meth c Q G vwCl A s.heap n0 s0 ad0 false zFT zFK zEL cs pc L S h := by
  intro ad H locs ls hSt hL hS hl
  subst ho
  have hcat2 : 2 * (F0 m (pc + 2) ls (.ref (aK 0) :: S.map (zc ad))).monitorRoom + ((S.map (zc ad)).map fun v => v.category).sum ≤ 8 := lv_room (by rw [zcat_sum]; exact hcat)
  refine va_ldcS hx hb hown hR hd ?_
  refine zjret (va_runV (C := "java/lang/String") (b := aK 0) (As := []) (rest := S.map (zc ad)) ⟨hx, hb, hml, hown, hts⟩ (js_length l (aK := aK) (aV := aV) (vf := vf)) ⟨callB_of 0 hts (zgoodIn lw_good (lw_gi (by decide +kernel) rfl)) rfl rfl rfl (hts (.initialized "java/lang/String") (lw_gi (by decide +kernel) rfl)) (hts (.methodLink "BoulderDowry$Tokens" 30 js_y_length) (lw_gi (by decide +kernel) rfl)) (by decide +kernel) ⟨by show 2 + 1 ≤ _; omega, by show 8 + (1 + 11) + 128 * 2 ≤ _; omega⟩, (hts (.instanceMethod js_y_length) (lw_gi (by decide +kernel) rfl)), (hts (.selects "java/lang/String" js_y_length js_y_length) (lw_gi (by decide +kernel) rfl))⟩ ⟨jblind, vk_recv hZ.1 (by decide) hSt.2.2.2.2, fun U hU hW => ⟨rfl, hZ.use hSt.2.2.2.2 hU hW⟩⟩ rfl rfl hl.1 rfl hcat2 hd2 ⟨hf.1, hf.2⟩) hSt (fun H1 locs1 hSt1 => ?_)
  exact kk ad H1 locs1 ls hSt1 hL (zNS_c (v := .inl 126) (by show zI32 126; unfold zI32; omega) hS) hl
theorem zs_schr {p : Program} {l : Launch} {e : Env} {R : Room} {s : State} {m : MethodId} {args : Array Value} {below : List Frame} {meth : Method} {c : Code} {Q : State → Prop} {G : va_G} {A : Nat → Prop} {n0 s0 : Nat} {ad0 : Nat → Nat} {cs : Nat → ClassId} {cc : ByteArray} {pc : Nat} {L : zL} {S : List zV} {aK aV : Nat → Nat} {vf : Option Nat} (hx : p.tables.exec = Jvm.exec) (hb : c.code = cc) (hK : va_K G vwCl (ztys cs zSC) s) (hA : ∀ q, s.heap.size ≤ q → A q) (hts : ∀ w ∈ lw_g, w.before args s = true) {own : String} (hown : s.vm.findClass own = some m.cls) (hml : c.maxLocals = L.length) (hZ : zStr A aK aV vf s s.heap) (hR : vk_R "BoulderDowry$Tokens" 28 sown (aK 0) s) (hAO : va_AO zSC s) (hAA : zAOA s) (ho : own = "BoulderDowry$Tokens") {h : zH} {k : Int} (hk : 0 ≤ k ∧ k < 126) (hcat : zcat S ≤ 8) (hRm : 5 ≤ R.frames ∧ 640 ≤ R.locals) (hf : zn h - n0 ≤ R.cells ∧ zsl h - s0 ≤ R.slots) (hv : L.getD 3 none = some (.inl k)) (hd : decode cc pc = .ok (.ldc 28, 2)) (hd1 : decode cc (pc + 2) = .ok (.iload_n 3, 1)) (hd2 : decode cc (pc + 3) = .ok (.invokevirtual 36, 3)) (kk : zAW p l e R s m args below meth c Q G vwCl A s.heap n0 s0 ad0 false zFT zFK zEL cs (pc + 6) L (.inl (sch k.toNat).toInt :: S) h) : zAW p l e R s m args below meth c Q G vwCl A s.heap n0 s0 ad0 false zFT zFK zEL cs pc L S h := by
  intro ad H locs ls hSt hL hS hl
  subst ho
  have hk3 : zI32 k := hL 3 _ hv
  have h126 : zI32 126 := by unfold zI32; omega
  have hc : (Int32.ofInt k).toNatClampNeg = k.toNat := zi_clamp hk3
  have hcat2 : 2 * (F0 m (pc + 3) ls (.int (Int32.ofInt k) :: .ref (aK 0) :: S.map (zc ad))).monitorRoom + ((S.map (zc ad)).map fun v => v.category).sum ≤ 8 := lv_room (by rw [zcat_sum]; exact hcat)
  refine va_ldcS hx hb hown hR hd ?_
  refine lv_iload_n hx hb hd1 rfl (zLs_at hl hv) ?_
  have hq : Int32.ofInt k < 126 := (show Int32.ofInt k < Int32.ofInt 126 from (zi_lt hk3 h126).mpr hk.2)
  refine zjret (va_runV (C := "java/lang/String") (b := aK 0) (As := [.int (Int32.ofInt k)]) (rest := S.map (zc ad)) ⟨hx, hb, hml, hown, hts⟩ (js_chA l (aK := aK) (aV := aV) (vf := vf) (zneg hk3 hk.1) hq (by rw [hc]; omega)) ⟨callB_of 1 hts (zgoodIn lw_good (lw_gi (by decide +kernel) rfl)) rfl rfl rfl (hts (.initialized "java/lang/String") (lw_gi (by decide +kernel) rfl)) (hts (.methodLink "BoulderDowry$Tokens" 36 js_y_chA) (lw_gi (by decide +kernel) rfl)) (by decide +kernel) ⟨by show 4 + 1 ≤ _; omega, by show 8 + (2 + 11) + 128 * 4 ≤ _; omega⟩, (hts (.instanceMethod js_y_chA) (lw_gi (by decide +kernel) rfl)), (hts (.selects "java/lang/String" js_y_chA js_y_chA) (lw_gi (by decide +kernel) rfl))⟩ ⟨jblind, vk_recv hZ.1 (by decide) hSt.2.2.2.2, fun U hU hW => ⟨rfl, hZ.use hSt.2.2.2.2 hU hW⟩⟩ rfl rfl hl.1 rfl hcat2 hd2 ⟨hf.1, hf.2⟩) hSt (fun H1 locs1 hSt1 => ?_)
  have k2 := kk ad H1 locs1 ls hSt1 hL (zNS_c (v := .inl (sch k.toNat).toInt) (zI32_t _) hS) hl
  have e : zc ad (.inl (sch k.toNat).toInt) = .int _ := congrArg Value.int (zoi _)
  rw [List.map_cons, e] at k2
  rw [hc]
  exact k2
