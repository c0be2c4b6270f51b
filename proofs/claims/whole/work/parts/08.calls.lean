def zExt (h h' : zH) : Prop := h (-1) 0 ≤ h' (-1) 0 ∧ h (-1) 1 ≤ h' (-1) 1 ∧ ∀ r : Int, 0 ≤ r → r < h (-1) 0 → h' (-2) r = h (-2) r ∧ h' (-3) r = h (-3) r
theorem zExt.rf (h : zH) : zExt h h := ⟨Int.le_refl _, Int.le_refl _, fun _ _ _ => ⟨rfl, rfl⟩⟩
theorem zExt.tr {a b c : zH} (h1 : zExt a b) (h2 : zExt b c) : zExt a c := ⟨Int.le_trans h1.1 h2.1, Int.le_trans h1.2.1 h2.2.1, fun r p q => by
  obtain ⟨x1, x2⟩ := h1.2.2 r p q
  obtain ⟨y1, y2⟩ := h2.2.2 r p (Int.lt_of_lt_of_le q h1.1)
  exact ⟨y1.trans x1, y2.trans x2⟩⟩
theorem zExt_set {h : zH} {r i v : Int} (hr : 0 ≤ r) : zExt h (zset h r i v) := by
  unfold zExt; rw [zset_neg hr (by omega), zset_neg hr (by omega), zset_neg hr (by omega)]; exact zExt.rf h
theorem zExt_cpy {h : zH} {d dp r sp n : Int} (hr : 0 ≤ d) : zExt h (zcpy h d dp r sp n) := by
  rw [zcpy_up]; unfold zExt; rw [zup_n (by omega), zup_n (by omega), zup_n (by omega)]; exact zExt.rf h
theorem zExt_new {h : zH} {kd len sl : Int} {df : Int → Int} (hs : 0 ≤ sl) : zExt h (znew h kd len sl df) := by
  refine ⟨?_, ?_, fun r p q => ⟨?_, ?_⟩⟩
  · show _ ≤ h (-1) 0 + 1; omega
  · show _ ≤ h (-1) 1 + sl; omega
  · show (if r = h (-1) 0 then kd else h (-2) r) = _; rw [if_neg (by omega)]
  · show (if r = h (-1) 0 then len else h (-3) r) = _; rw [if_neg (by omega)]
theorem zRef_ext {h h' : zH} (he : zExt h h') {x : Int} {k n : Nat} (hv : zRef h x k n) : zRef h' x k n := by
  rcases hv with e | ⟨a1, a2, a3, a4⟩
  · exact Or.inl e
  · obtain ⟨e1, e2⟩ := he.2.2 x a1 a2
    exact Or.inr ⟨a1, Int.lt_of_lt_of_le a2 he.1, e1.trans a3, e2.trans a4⟩
theorem zN_ext {h h' : zH} (he : zExt h h') {v : zV} (hv : zN h v) : zN h' v := by
  rcases v with a | a | q
  · exact hv
  · exact hv
  · exact zRef_ext he hv
theorem zro_ext {h : zH} {ad ad' : Nat → Nat} (ha : ∀ k, k < zn h → ad' k = ad k) {x : Int} {k n : Nat} (hv : zRef h x k n) : zro ad' x = zro ad x := by
  unfold zro
  rcases hv with e | ⟨a1, a2, -, -⟩
  · rw [if_pos (by omega), if_pos (by omega)]
  · rw [if_neg (by omega), if_neg (by omega), ha _ (by unfold zn; omega)]
theorem zc_ext {h : zH} {ad ad' : Nat → Nat} (ha : ∀ k, k < zn h → ad' k = ad k) {v : zV} (hv : zN h v) : zc ad' v = zc ad v := by
  rcases v with a | a | q
  · rfl
  · rfl
  · show va_rf (zro ad' q.1) = va_rf (zro ad q.1); rw [zro_ext ha hv]
theorem zmap_ext {h : zH} {ad ad' : Nat → Nat} (ha : ∀ k, k < zn h → ad' k = ad k) {S : List zV} (hS : zNS h S) : S.map (zc ad') = S.map (zc ad) := List.map_congr_left fun v hv => zc_ext ha (hS v hv)
theorem zLs_ext {h : zH} {ad ad' : Nat → Nat} (ha : ∀ k, k < zn h → ad' k = ad k) {ls : Array Slot} {L : zL} (hL : zNL h L) (hl : zLs ad ls L) : zLs ad' ls L :=
  zLs_of hl rfl fun i v hv => zla_mem.mpr ⟨v, hv, zc_ext ha (hL i v hv)⟩
theorem zn_mono {h h' : zH} (he : zExt h h') : zn h ≤ zn h' ∧ zsl h ≤ zsl h' := by unfold zn zsl; have := he.1; have := he.2.1; omega
def zPre (D : va_G) (cl : List vw_C) (FT : Nat → List Nat) (cs : Nat → ClassId) (SC : String) (ad : Nat → Nat) (h : zH) (sz : Nat) : State → Prop := fun U => U.heap.size = sz ∧ va_P D cl (zw FT cs ad h) U.heap ∧ va_K D cl (ztys cs SC) U ∧ va_D (fun _ => True) (zw FT cs ad h)
/-- the contract of a method at one start: it comes to this answer and this heap -/
def zMet (l : Launch) (Ts : List Cond) (cl : List vw_C) (md : Bool) (FT : Nat → List Nat) (FK : Nat → Nat → Nat × Nat × Int) (EL : Nat → Nat × Nat) (SC : String) (d : Nat) (y : MethodName) (cc : ByteArray) (maxL : Nat) (ret : Option FieldType) (rk : Int) (as : List zV) (h : zH) (res : zV × zH) : Prop :=
  zWF md FT FK EL h → zNS h as → ∀ (D : va_G) (cs : Nat → ClassId) (ad : Nat → Nat) (sz : Nat), Met l y (.code y cc maxL ret :: Ts) (zroom d (zn res.2 - zn h) (zsl res.2 - zsl h)) (va_Pc (as.map (zc ad)) (zPre D cl FT cs SC ad h sz)) (zQc D cl md FT FK EL cs SC rk (zn h) ad (va_A (zw FT cs ad h) sz) res) (zn res.2 - zn h) (zsl res.2 - zsl h) (va_A (zw FT cs ad h) sz)
def zpush (rk : Int) (v : zV) (S : List zV) : List zV := if rk = 2 then S else v :: S
theorem zblind {D : va_G} {cl : List vw_C} {FT : Nat → List Nat} {cs : Nat → ClassId} {SC : String} {ad : Nat → Nat} {h : zH} {sz : Nat} {av : List Value} : FrameBlind (va_Pc av (zPre D cl FT cs SC ad h sz)) := fun a U g mk q => by
  obtain ⟨q0, q1, qP, qK, qD⟩ := q
  exact ⟨q0, q1, qP, va_K.moved (u := U) (U := U.calling g mk a) (Vm.Alike.refl U.vm) qK, qD⟩
theorem zfree {D : va_G} {cl : List vw_C} {A : Nat → Prop} {H0 : Heap} {n0 s0 : Nat} {ad0 : Nat → Nat} {md : Bool} {FT : Nat → List Nat} {FK : Nat → Nat → Nat × Nat × Int} {EL : Nat → Nat × Nat} {cs : Nat → ClassId} {ad : Nat → Nat} {h : zH} {H : Heap} {locs : List Loc} (hSt : zSt D cl A H0 n0 s0 ad0 md FT FK EL cs ad h H locs) (hA : ∀ q, H0.size ≤ q → A q) : ∀ q, va_A (zw FT cs ad h) H.size q → A q := by
  rintro q (⟨k, e, hk⟩ | hq)
  · exact hSt.2.2.2.1.2 k _ hk
  · exact hA q (Nat.le_trans hSt.2.2.2.2.1 hq)
theorem zafter {p : Program} {l : Launch} {e : Env} {R : Room} {s : State} {m : MethodId} {args : Array Value} {below : List Frame} {meth : Method} {c : Code} {Q : State → Prop} {D : va_G} {cl : List vw_C} {A : Nat → Prop} {H0 : Heap} {n0 s0 : Nat} {ad0 : Nat → Nat} {md : Bool} {FT : Nat → List Nat} {FK : Nat → Nat → Nat × Nat × Int} {EL : Nat → Nat × Nat} {cs : Nat → ClassId} {pc : Nat} {L : zL} {S : List zV} {h : zH} {SC : String} {ad : Nat → Nat} {H : Heap} {locs : List Loc} {ls : Array Slot} {rk : Int} {res : zV × zH} {st0 : List Value} {a : Array Value} (hA : ∀ q, H0.size ≤ q → A q) (hSt : zSt D cl A H0 n0 s0 ad0 md FT FK EL cs ad h H locs) (hL : zNL h L) (hS : zNS h S) (hl : zLs ad ls L) (hext : zExt h res.2)
    (hr : va_Run p l e R s m args below meth c H locs (zn h - n0) (zsl h - s0) (zn res.2 - zn h) (zsl res.2 - zsl h) (F0 m pc ls st0) (S.map (zc ad)) (zQc D cl md FT FK EL cs SC rk (zn h) ad (va_A (zw FT cs ad h) H.size) res a) (va_A (zw FT cs ad h) H.size))
    (k : zAW p l e R s m args below meth c Q D cl A H0 n0 s0 ad0 md FT FK EL cs (pc + 3) L (zpush rk res.1 S) res.2) : W p l e R s m args below meth c H locs (zn h - n0) (zsl h - s0) Q (F0 m pc ls st0) := by
  intro T hT X
  obtain ⟨v, st₀, t, T', Lc, h0, X', hLc, e1, e2, ⟨⟨ad2, ho, hw2, hn2, ha2, hP2, hD2, hK2⟩, hz, hk⟩, st⟩ := hr T hT X
  have hF := zfree hSt hA
  have hmono := zn_mono hext
  rw [h0] at hz hk
  have hSt2 : zSt D cl A H0 n0 s0 ad0 md FT FK EL cs ad2 res.2 T'.heap (locs ++ Lc) := by
    refine ⟨hw2, ⟨Nat.le_trans hSt.2.1.1 hmono.1, Nat.le_trans hSt.2.1.2.1 hmono.2, fun j hj => (ha2 j (Nat.lt_of_lt_of_le hj hSt.2.1.1)).trans (hSt.2.1.2.2 j hj)⟩, by rw [e1]; exact hP2, hD2.weaken (fun _ q _ hq => hF q.1 hq), ?_⟩
    refine ⟨Nat.le_trans hSt.2.2.2.2.1 (by rw [e1]; exact hz), fun q h1 h2 => ?_, fun q hq => ?_⟩
    · rw [e1, hk q (Nat.lt_of_lt_of_le h1 hSt.2.2.2.2.1) (fun z => h2 (hF q z))]
      exact hSt.2.2.2.2.2.1 q h1 h2
    · rcases List.mem_append.mp hq with h | h
      · exact hSt.2.2.2.2.2.2 q h
      · exact hF _ (hLc q h)
  have hS2 : zNS res.2 (zpush rk res.1 S) := by
    unfold zpush
    split
    · exact fun v hv => zN_ext hext (hS v hv)
    · exact zNS_c hn2 fun v hv => zN_ext hext (hS v hv)
  have k2 := k ad2 T'.heap (locs ++ Lc) ls hSt2 (fun i v hv => zN_ext hext (hL i v hv)) hS2 (zLs_ext ha2 hL hl)
  rw [show zn res.2 - n0 = zn h - n0 + (zn res.2 - zn h) by have := hSt.2.1.1; omega, show zsl res.2 - s0 = zsl h - s0 + (zsl res.2 - zsl h) by have := hSt.2.1.2.1; omega] at k2
  have hst : (zpush rk res.1 S).map (zc ad2) = v.toList ++ S.map (zc ad) := by
    cases ho
    unfold zpush
    split
    · rw [zmap_ext ha2 hS]; rfl
    · rw [List.map_cons, zmap_ext ha2 hS]; rfl
  rw [hst] at k2
  obtain ⟨t2, a1, b1⟩ := k2 T' rfl X'
  exact ⟨t2, st t2 a1, b1⟩
/-- what the tables must say of a callee -/
def zCal (Ts : List Cond) (y : MethodName) (cc : ByteArray) (maxL : Nat) (ret : Option FieldType) (n : Nat) : Prop :=
  (Cond.code y cc maxL ret ∈ Ts ∧ Cond.initialized y.cls ∈ Ts) ∧ (y.cls ≠ "java/lang/invoke/MethodHandle" ∧ y.cls ≠ "java/lang/invoke/VarHandle" ∧ (parseMethodDescriptor y.desc).map (fun d => d.parameters.length) = some n) ∧ maxL ≤ 100
theorem zgoodIn {Ts : List Cond} (hgd : ∀ w ∈ Ts, goodWord w = true) {w0 : Cond} (h : w0 ∈ Ts) : GoodIn Ts (w0 :: Ts) := fun w hw => by
  rcases List.mem_cons.mp hw with e | e
  · subst e; exact ⟨h, good_of_word (hgd _ h)⟩
  · exact ⟨e, good_of_word (hgd _ e)⟩
theorem zs_callV {p : Program} {l : Launch} {e : Env} {R : Room} {s : State} {m : MethodId} {args : Array Value} {below : List Frame} {meth : Method} {c : Code} {Q : State → Prop} {D : va_G} {cl : List vw_C} {A : Nat → Prop} {H0 : Heap} {n0 s0 : Nat} {ad0 : Nat → Nat} {md : Bool} {FT : Nat → List Nat} {FK : Nat → Nat → Nat × Nat × Int} {EL : Nat → Nat × Nat} {cs : Nat → ClassId} {cc : ByteArray} {pc : Nat} {L : zL} {S : List zV} {h : zH} {SC : String} (hx : p.tables.exec = Jvm.exec) (hb : c.code = cc) (hK : va_K D cl (ztys cs SC) s) (hA : ∀ q, H0.size ≤ q → A q) {Ts : List Cond} (hts : ∀ w ∈ Ts, w.before args s = true) (hgd : ∀ w ∈ Ts, goodWord w = true) {own : String} (hown : s.vm.findClass own = some m.cls) (hml : c.maxLocals = L.length) {idx : Nat} {y : MethodName} {cc2 : ByteArray} {mL2 d : Nat} {ret2 : Option FieldType} {rk : Int} {as : List zV} {res : zV × zH} {r : Int} {kd w : Nat} {C : String} {T : u_T} {N : Nat} (hM : zMet l Ts cl md FT FK EL SC d y cc2 mL2 ret2 rk (.inr (.inr (r, kd, w)) :: as) h res) (hlk : Cond.methodLink own idx y ∈ Ts) (hin : Cond.instanceMethod y ∈ Ts) (hsel : Cond.selects C y y ∈ Ts) (hcal : zCal Ts y cc2 mL2 ret2 as.length) (hkd : kd < 100) (hcl : cl[kd]? = some (C, T, N)) (h0 : 0 ≤ r) (hcat : zcat S ≤ 8) (hR : d + 1 ≤ R.frames ∧ 128 * (d + 1) ≤ R.locals) (hext : zExt h res.2) (hf : zn res.2 - n0 ≤ R.cells ∧ zsl res.2 - s0 ≤ R.slots) (hd : decode cc pc = .ok (.invokevirtual idx, 3)) (k : zAW p l e R s m args below meth c Q D cl A H0 n0 s0 ad0 md FT FK EL cs (pc + 3) L (zpush rk res.1 S) res.2) : zAW p l e R s m args below meth c Q D cl A H0 n0 s0 ad0 md FT FK EL cs pc L (as.reverse ++ .inr (.inr (r, kd, w)) :: S) h := by
  intro ad H locs ls hSt hL hS hl
  have hmono := zn_mono hext
  have q1 := hSt.2.1.1
  have q2 := hSt.2.1.2.1
  have hS0 : zNS h S := fun v hv => hS v (List.mem_append_right _ (List.mem_cons_of_mem _ hv))
  have hr : zRef h r kd w := hS (.inr (.inr (r, kd, w))) (List.mem_append_right _ List.mem_cons_self)
  have hNa : zNS h (.inr (.inr (r, kd, w)) :: as) := zNS_c hr fun v hv => hS v (List.mem_append_left _ (List.mem_reverse.mpr hv))
  refine zafter (SC := SC) hA hSt hL hS0 hl hext (a := (.inr (.inr (r, kd, w)) :: as : List zV).map (zc ad) |>.toArray) ?_ k
  have hMM := hM hSt.1 hNa D cs ad H.size
  have hPK : ∀ U : State, U.heap = H → s.WarmedH U.vm → zPre D cl FT cs SC ad h H.size U := fun U hU hW => ⟨by rw [hU], by rw [hU]; exact hSt.2.2.1, va_K.moved hW.alike hK, hSt.2.2.2.1.weaken (fun _ _ _ _ => trivial)⟩
  have hR2 : (zroom d (zn res.2 - zn h) (zsl res.2 - zsl h)).frames + 1 ≤ R.frames ∧ 8 + (mL2 + 11) + (zroom d (zn res.2 - zn h) (zsl res.2 - zsl h)).locals ≤ R.locals := ⟨hR.1, by show 8 + (mL2 + 11) + 128 * d ≤ _; have := hcal.2.2; have := hR.2; omega⟩
  have hf2 : zn h - n0 + (zn res.2 - zn h) ≤ R.cells ∧ zsl h - s0 + (zsl res.2 - zsl h) ≤ R.slots := ⟨by have := hf.1; omega, by have := hf.2; omega⟩
  have hcat2 : 2 * (F0 m pc ls ((as.reverse ++ .inr (.inr (r, kd, w)) :: S : List zV).map (zc ad))).monitorRoom + ((S.map (zc ad)).map fun v => v.category).sum ≤ 8 := lv_room (by rw [zcat_sum]; exact hcat)
  have hce : (zw FT cs ad h)[r.toNat]? = some (ad r.toNat, .inr (kd, zob FT ad kd (h r))) := by
    rw [zcell ad hr h0]; unfold zce; rw [if_pos hkd]
  have hav : (.inr (.inr (r, kd, w)) :: as : List zV).map (zc ad) = .ref (ad r.toNat) :: as.map (zc ad) := by rw [List.map_cons, zcr h0]
  rw [hav] at hMM ⊢
  exact va_runV (C := C) (b := ad r.toNat) (As := as.map (zc ad)) ⟨hx, hb, hml, hown, hts⟩ hMM ⟨callB_of as.length hts (zgoodIn hgd hcal.1.1) rfl rfl rfl (hts _ hcal.1.2) (hts _ hlk) hcal.2.1 hR2, hts _ hin, hts _ hsel⟩ ⟨zblind, va_recv hK hSt.2.2.1 hcl hce, fun U hU hW => ⟨rfl, hPK U hU hW⟩⟩ rfl (by rw [List.length_map]) hl.1 (by rw [show (F0 m pc ls ((as.reverse ++ .inr (.inr (r, kd, w)) :: S).map (zc ad))).stack = (as.reverse ++ .inr (.inr (r, kd, w)) :: S).map (zc ad) from rfl, List.map_append, List.map_reverse, List.map_cons, zcr h0]) hcat2 hd hf2
theorem zs_callI {p : Program} {l : Launch} {e : Env} {R : Room} {s : State} {m : MethodId} {args : Array Value} {below : List Frame} {meth : Method} {c : Code} {Q : State → Prop} {D : va_G} {cl : List vw_C} {A : Nat → Prop} {H0 : Heap} {n0 s0 : Nat} {ad0 : Nat → Nat} {md : Bool} {FT : Nat → List Nat} {FK : Nat → Nat → Nat × Nat × Int} {EL : Nat → Nat × Nat} {cs : Nat → ClassId} {cc : ByteArray} {pc : Nat} {L : zL} {S : List zV} {h : zH} {SC : String} (hx : p.tables.exec = Jvm.exec) (hb : c.code = cc) (hK : va_K D cl (ztys cs SC) s) (hA : ∀ q, H0.size ≤ q → A q) {Ts : List Cond} (hts : ∀ w ∈ Ts, w.before args s = true) (hgd : ∀ w ∈ Ts, goodWord w = true) {own : String} (hown : s.vm.findClass own = some m.cls) (hml : c.maxLocals = L.length) {idx : Nat} {y : MethodName} {cc2 : ByteArray} {mL2 d : Nat} {ret2 : Option FieldType} {rk : Int} {as : List zV} {res : zV × zH} {r : Int} {kd w : Nat} (hM : zMet l Ts cl md FT FK EL SC d y cc2 mL2 ret2 rk (.inr (.inr (r, kd, w)) :: as) h res) (hret : ret2 = none) (hlk : Cond.methodLink own idx y ∈ Ts) (hin : Cond.instanceMethod y ∈ Ts) (hnm : y.name = "<init>") (hcal : zCal Ts y cc2 mL2 ret2 as.length) (h0 : 0 ≤ r) (hcat : zcat S ≤ 8) (hR : d + 1 ≤ R.frames ∧ 128 * (d + 1) ≤ R.locals) (hext : zExt h res.2) (hf : zn res.2 - n0 ≤ R.cells ∧ zsl res.2 - s0 ≤ R.slots) (hd : decode cc pc = .ok (.invokespecial idx, 3)) (k : zAW p l e R s m args below meth c Q D cl A H0 n0 s0 ad0 md FT FK EL cs (pc + 3) L (zpush rk res.1 S) res.2) : zAW p l e R s m args below meth c Q D cl A H0 n0 s0 ad0 md FT FK EL cs pc L (as.reverse ++ .inr (.inr (r, kd, w)) :: S) h := by
  intro ad H locs ls hSt hL hS hl
  have hmono := zn_mono hext
  have q1 := hSt.2.1.1
  have q2 := hSt.2.1.2.1
  have hS0 : zNS h S := fun v hv => hS v (List.mem_append_right _ (List.mem_cons_of_mem _ hv))
  have hr : zRef h r kd w := hS (.inr (.inr (r, kd, w))) (List.mem_append_right _ List.mem_cons_self)
  have hNa : zNS h (.inr (.inr (r, kd, w)) :: as) := zNS_c hr fun v hv => hS v (List.mem_append_left _ (List.mem_reverse.mpr hv))
  refine zafter (SC := SC) hA hSt hL hS0 hl hext (a := (.inr (.inr (r, kd, w)) :: as : List zV).map (zc ad) |>.toArray) ?_ k
  have hMM := hM hSt.1 hNa D cs ad H.size
  have hPK : ∀ U : State, U.heap = H → s.WarmedH U.vm → zPre D cl FT cs SC ad h H.size U := fun U hU hW => ⟨by rw [hU], by rw [hU]; exact hSt.2.2.1, va_K.moved hW.alike hK, hSt.2.2.2.1.weaken (fun _ _ _ _ => trivial)⟩
  have hR2 : (zroom d (zn res.2 - zn h) (zsl res.2 - zsl h)).frames + 1 ≤ R.frames ∧ 8 + (mL2 + 11) + (zroom d (zn res.2 - zn h) (zsl res.2 - zsl h)).locals ≤ R.locals := ⟨hR.1, by show 8 + (mL2 + 11) + 128 * d ≤ _; have := hcal.2.2; have := hR.2; omega⟩
  have hf2 : zn h - n0 + (zn res.2 - zn h) ≤ R.cells ∧ zsl h - s0 + (zsl res.2 - zsl h) ≤ R.slots := ⟨by have := hf.1; omega, by have := hf.2; omega⟩
  have hcat2 : 2 * (F0 m pc ls ((as.reverse ++ .inr (.inr (r, kd, w)) :: S : List zV).map (zc ad))).monitorRoom + ((S.map (zc ad)).map fun v => v.category).sum ≤ 8 := lv_room (by rw [zcat_sum]; exact hcat)
  subst hret
  have hav : (.inr (.inr (r, kd, w)) :: as : List zV).map (zc ad) = .ref (ad r.toNat) :: as.map (zc ad) := by rw [List.map_cons, zcr h0]
  rw [hav] at hMM ⊢
  exact va_runI (b := ad r.toNat) (As := as.map (zc ad)) ⟨hx, hb, hml, hown, hts⟩ hMM ⟨callB_of as.length hts (zgoodIn hgd hcal.1.1) rfl rfl rfl (hts _ hcal.1.2) (hts _ hlk) hcal.2.1 hR2, hnm, hts _ hin⟩ ⟨zblind, fun U hU hW => ⟨rfl, hPK U hU hW⟩⟩ rfl (by rw [List.length_map]) hl.1 (by rw [show (F0 m pc ls ((as.reverse ++ .inr (.inr (r, kd, w)) :: S).map (zc ad))).stack = (as.reverse ++ .inr (.inr (r, kd, w)) :: S).map (zc ad) from rfl, List.map_append, List.map_reverse, List.map_cons, zcr h0]) hcat2 hd hf2
theorem zs_callS {p : Program} {l : Launch} {e : Env} {R : Room} {s : State} {m : MethodId} {args : Array Value} {below : List Frame} {meth : Method} {c : Code} {Q : State → Prop} {D : va_G} {cl : List vw_C} {A : Nat → Prop} {H0 : Heap} {n0 s0 : Nat} {ad0 : Nat → Nat} {md : Bool} {FT : Nat → List Nat} {FK : Nat → Nat → Nat × Nat × Int} {EL : Nat → Nat × Nat} {cs : Nat → ClassId} {cc : ByteArray} {pc : Nat} {L : zL} {S : List zV} {h : zH} {SC : String} (hx : p.tables.exec = Jvm.exec) (hb : c.code = cc) (hK : va_K D cl (ztys cs SC) s) (hA : ∀ q, H0.size ≤ q → A q) {Ts : List Cond} (hts : ∀ w ∈ Ts, w.before args s = true) (hgd : ∀ w ∈ Ts, goodWord w = true) {own : String} (hown : s.vm.findClass own = some m.cls) (hml : c.maxLocals = L.length) {idx : Nat} {y : MethodName} {cc2 : ByteArray} {mL2 d : Nat} {ret2 : Option FieldType} {rk : Int} {as : List zV} {res : zV × zH}  (hM : zMet l Ts cl md FT FK EL SC d y cc2 mL2 ret2 rk (as) h res) (hlk : Cond.methodLink own idx y ∈ Ts) (hst : Cond.static y ∈ Ts) (hcal : zCal Ts y cc2 mL2 ret2 as.length) (hcat : zcat S ≤ 8) (hR : d + 1 ≤ R.frames ∧ 128 * (d + 1) ≤ R.locals) (hext : zExt h res.2) (hf : zn res.2 - n0 ≤ R.cells ∧ zsl res.2 - s0 ≤ R.slots) (hd : decode cc pc = .ok (.invokestatic idx, 3)) (k : zAW p l e R s m args below meth c Q D cl A H0 n0 s0 ad0 md FT FK EL cs (pc + 3) L (zpush rk res.1 S) res.2) : zAW p l e R s m args below meth c Q D cl A H0 n0 s0 ad0 md FT FK EL cs pc L (as.reverse ++ S) h := by
  intro ad H locs ls hSt hL hS hl
  have hmono := zn_mono hext
  have q1 := hSt.2.1.1
  have q2 := hSt.2.1.2.1
  have hS0 : zNS h S := fun v hv => hS v (List.mem_append_right _ hv)
  have hNa : zNS h as := fun v hv => hS v (List.mem_append_left _ (List.mem_reverse.mpr hv))
  refine zafter (SC := SC) hA hSt hL hS0 hl hext (a := (as : List zV).map (zc ad) |>.toArray) ?_ k
  have hMM := hM hSt.1 hNa D cs ad H.size
  have hPK : ∀ U : State, U.heap = H → s.WarmedH U.vm → zPre D cl FT cs SC ad h H.size U := fun U hU hW => ⟨by rw [hU], by rw [hU]; exact hSt.2.2.1, va_K.moved hW.alike hK, hSt.2.2.2.1.weaken (fun _ _ _ _ => trivial)⟩
  have hR2 : (zroom d (zn res.2 - zn h) (zsl res.2 - zsl h)).frames + 1 ≤ R.frames ∧ 8 + (mL2 + 11) + (zroom d (zn res.2 - zn h) (zsl res.2 - zsl h)).locals ≤ R.locals := ⟨hR.1, by show 8 + (mL2 + 11) + 128 * d ≤ _; have := hcal.2.2; have := hR.2; omega⟩
  have hf2 : zn h - n0 + (zn res.2 - zn h) ≤ R.cells ∧ zsl h - s0 + (zsl res.2 - zsl h) ≤ R.slots := ⟨by have := hf.1; omega, by have := hf.2; omega⟩
  have hcat2 : 2 * (F0 m pc ls ((as.reverse ++ S : List zV).map (zc ad))).monitorRoom + ((S.map (zc ad)).map fun v => v.category).sum ≤ 8 := lv_room (by rw [zcat_sum]; exact hcat)
  exact va_runS (As := as.map (zc ad)) ⟨hx, hb, hml, hown, hts⟩ hMM ⟨callB_of as.length hts (zgoodIn hgd hcal.1.1) rfl rfl rfl (hts _ hcal.1.2) (hts _ hlk) hcal.2.1 hR2, hts _ hst⟩ ⟨zblind, fun U hU hW => ⟨rfl, hPK U hU hW⟩⟩ rfl (by rw [List.length_map]) hl.1 (by rw [show (F0 m pc ls ((as.reverse ++ S).map (zc ad))).stack = (as.reverse ++ S).map (zc ad) from rfl, List.map_append, List.map_reverse]) hcat2 hd hf2
theorem zs_callN {p : Program} {l : Launch} {e : Env} {R : Room} {s : State} {m : MethodId} {args : Array Value} {below : List Frame} {meth : Method} {c : Code} {Q : State → Prop} {D : va_G} {cl : List vw_C} {A : Nat → Prop} {H0 : Heap} {n0 s0 : Nat} {ad0 : Nat → Nat} {md : Bool} {FT : Nat → List Nat} {FK : Nat → Nat → Nat × Nat × Int} {EL : Nat → Nat × Nat} {cs : Nat → ClassId} {cc : ByteArray} {pc : Nat} {L : zL} {S : List zV} {h : zH} {SC : String} (hx : p.tables.exec = Jvm.exec) (hb : c.code = cc) (hK : va_K D cl (ztys cs SC) s) (hA : ∀ q, H0.size ≤ q → A q) {Ts : List Cond} (hts : ∀ w ∈ Ts, w.before args s = true) (hgd : ∀ w ∈ Ts, goodWord w = true) {own : String} (hown : s.vm.findClass own = some m.cls) (hml : c.maxLocals = L.length) {idx : Nat} {y : MethodName} {cc2 : ByteArray} {mL2 d : Nat} {ret2 : Option FieldType} {rk : Int} {as : List zV} {res : zV × zH} {host : String} (hM : zMet l Ts cl md FT FK EL SC d y cc2 mL2 ret2 rk (as) h res) (hlk : Cond.methodLinkNest own idx y host ∈ Ts) (hst : Cond.static y ∈ Ts) (hcal : zCal Ts y cc2 mL2 ret2 as.length) (hcat : zcat S ≤ 8) (hR : d + 1 ≤ R.frames ∧ 128 * (d + 1) ≤ R.locals) (hext : zExt h res.2) (hf : zn res.2 - n0 ≤ R.cells ∧ zsl res.2 - s0 ≤ R.slots) (hd : decode cc pc = .ok (.invokestatic idx, 3)) (k : zAW p l e R s m args below meth c Q D cl A H0 n0 s0 ad0 md FT FK EL cs (pc + 3) L (zpush rk res.1 S) res.2) : zAW p l e R s m args below meth c Q D cl A H0 n0 s0 ad0 md FT FK EL cs pc L (as.reverse ++ S) h := by
  intro ad H locs ls hSt hL hS hl
  have hmono := zn_mono hext
  have q1 := hSt.2.1.1
  have q2 := hSt.2.1.2.1
  have hS0 : zNS h S := fun v hv => hS v (List.mem_append_right _ hv)
  have hNa : zNS h as := fun v hv => hS v (List.mem_append_left _ (List.mem_reverse.mpr hv))
  refine zafter (SC := SC) hA hSt hL hS0 hl hext (a := (as : List zV).map (zc ad) |>.toArray) ?_ k
  have hMM := hM hSt.1 hNa D cs ad H.size
  have hPK : ∀ U : State, U.heap = H → s.WarmedH U.vm → zPre D cl FT cs SC ad h H.size U := fun U hU hW => ⟨by rw [hU], by rw [hU]; exact hSt.2.2.1, va_K.moved hW.alike hK, hSt.2.2.2.1.weaken (fun _ _ _ _ => trivial)⟩
  have hR2 : (zroom d (zn res.2 - zn h) (zsl res.2 - zsl h)).frames + 1 ≤ R.frames ∧ 8 + (mL2 + 11) + (zroom d (zn res.2 - zn h) (zsl res.2 - zsl h)).locals ≤ R.locals := ⟨hR.1, by show 8 + (mL2 + 11) + 128 * d ≤ _; have := hcal.2.2; have := hR.2; omega⟩
  have hf2 : zn h - n0 + (zn res.2 - zn h) ≤ R.cells ∧ zsl h - s0 + (zsl res.2 - zsl h) ≤ R.slots := ⟨by have := hf.1; omega, by have := hf.2; omega⟩
  have hcat2 : 2 * (F0 m pc ls ((as.reverse ++ S : List zV).map (zc ad))).monitorRoom + ((S.map (zc ad)).map fun v => v.category).sum ≤ 8 := lv_room (by rw [zcat_sum]; exact hcat)
  exact va_runSN (As := as.map (zc ad)) ⟨hx, hb, hml, hown, hts⟩ hMM ⟨va_cnB as.length hts (zgoodIn hgd hcal.1.1) rfl rfl rfl (va_Nw.of rfl (hts _ hlk)) (hts _ hcal.1.2) hcal.2.1 hR2, hts _ hst, trivial⟩ ⟨zblind, fun U hU hW => ⟨rfl, hPK U hU hW⟩⟩ rfl (by rw [List.length_map]) hl.1 (by rw [show (F0 m pc ls ((as.reverse ++ S).map (zc ad))).stack = (as.reverse ++ S).map (zc ad) from rfl, List.map_append, List.map_reverse]) hcat2 hd hf2
