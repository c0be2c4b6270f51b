/-! a method in order, also of a class that the machine has entries for -/
def zMokF (md : Bool) (Ts : List Cond) (cl : List vw_C) (FT : Nat → List Nat) (FK : Nat → Nat → Nat × Nat × Int) (MT : Nat → zMD) (M : zMD) : Prop :=
  plainFor M.1 = true ∧ M.2.2.2.1 = zrt M.2.2.2.2.1 ∧ ∀ q ∈ M.2.2.2.2.2.1, zRok md Ts cl FT FK MT M.1.cls M.2.2.2.2.1 M.2.1 q
theorem zMok_F {md : Bool} {Ts : List Cond} {cl : List vw_C} {FT : Nat → List Nat} {FK : Nat → Nat → Nat × Nat × Int} {MT : Nat → zMD} {M : zMD} (h : zMok md Ts cl FT FK MT M) : zMokF md Ts cl FT FK MT M := ⟨plainFor_of_name h.1, h.2⟩
theorem zMkF {nm : MethodName} {cc : ByteArray} {mL : Nat} {rt : Option FieldType} {rk : Int} {rows : List zRow} {ct : List (Nat × List Bool)} (h1 : plainFor nm = true) (h2 : rt = zrt rk) (h3 : rows.all (fun q => decide (decode cc q.1 = .ok (q.2.2.1, q.2.1))) = true) (h4 : rows.all (fun q => zlnb q.2.2.1 q.2.1 && zIb nm.cls rk q.1 q.2.2.1 q.2.2.2.2.2) = true) : zMokF true lw_tbl vwCl zFT zFK zMT (nm, cc, mL, rt, rk, rows, ct) := by
  refine ⟨h1, h2, fun q hq => ?_⟩
  have e3 := List.all_eq_true.mp h3 q hq
  have e4 := zand2 (List.all_eq_true.mp h4 q hq)
  exact ⟨of_decide_eq_true e3, zlnb_ok e4.1, zIb_ok e4.2⟩
theorem zrn_soundF {l : Launch} {Ts : List Cond} {cl : List vw_C} {md : Bool} {FT : Nat → List Nat} {FK : Nat → Nat → Nat × Nat × Int} {EL : Nat → Nat × Nat} {SC : String} {MT : Nat → zMD} (hgd : ∀ w ∈ Ts, goodWord w = true) (hMT : ∀ y, zMokF md Ts cl FT FK MT (MT y)) : ∀ d, zPs l Ts cl md FT FK EL SC MT d (zrn md FT EL MT d)
  | 0 => fun y as h res hz => by cases hz
  | d + 1 => by
    have ih := zrn_soundF (l := l) (SC := SC) (EL := EL) hgd hMT d
    intro y as h res hz
    have hz0 := hz
    obtain ⟨h1, hz⟩ := zck_inv hz
    have h1 := Nat.le_of_ble_eq_true h1
    obtain ⟨F, hz⟩ := (zgo_iff (zrn_ext d) res).mp hz
    obtain ⟨m1, m2, m3⟩ := hMT y
    have hlen : (zpad (MT y).2.2.1 (zloc as)).length = (MT y).2.2.1 := by unfold zpad; rw [List.length_append, List.length_replicate]; omega
    have key : ∀ (p : Program) (e : Env) (s : State) (m : MethodId) (args : Array Value) (below : List Frame) (meth : Method) (c : Code) (D : va_G) (A : Nat → Prop) (n0 s0 : Nat) (ad0 : Nat → Nat) (cs : Nat → ClassId), p.tables.exec = Jvm.exec → c.code = (MT y).2.1 → va_K D cl (ztys cs SC) s → (∀ q, s.heap.size ≤ q → A q) → (∀ w ∈ Ts, w.before args s = true) → s.vm.findClass (MT y).1.cls = some m.cls → c.maxLocals = (MT y).2.2.1 → meth.locks = false → meth.sig.returnType = zrt (MT y).2.2.2.2.1 → zExt h res.2 ∧ zA p l e s m args below meth c D cl A n0 s0 ad0 md FT FK EL cs SC (MT y).2.2.2.2.1 d res 0 (zpad (MT y).2.2.1 (zloc as)) [] h :=
      fun p e s m args below meth c D A n0 s0 ad0 cs k1 k2 k3 k4 k5 k6 k7 k8 k9 => zev_sound k1 k2 k3 k4 k5 hgd k6 k7 k8 k9 ih _ m3 F 0 _ [] h res hlen hz
    refine ⟨zrn_ext (d + 1) y as h res hz0, fun hWF hNa D cs ad sz => ?_⟩
    refine va_MetF (cc := (MT y).2.1) (maxL := (MT y).2.2.1) (ret := (MT y).2.2.2.1) m1 rfl ?_
    intro p e s m args below meth c s₁ B hml hv
    obtain ⟨rfl, hsz, hP, hK, hD0⟩ := hv
    have hts0 := atoms_spec (ws := .code (MT y).1 (MT y).2.1 (MT y).2.2.1 (MT y).2.2.2.1 :: Ts) B.pre
    have hts : ∀ w ∈ Ts, w.before (as.map (zc ad)).toArray s = true := fun w hw => hts0 w (List.mem_cons_of_mem _ hw)
    have hown : s.vm.findClass (MT y).1.cls = some m.cls := findClass_of_methodNamed B.named
    subst hsz
    have hD := hD0.self (sz := s.heap.size)
    have kk := (key p e s m (as.map (zc ad)).toArray below meth c D (va_A (zw FT cs ad h) s.heap.size) (zn h) (zsl h) ad cs B.exec B.bytes hK (fun q hq => Or.inr hq) hts hown hml B.notSynchronized (B.returns.trans m2)).2
    rw [lg_entry_eq]
    have hl : zLs ad ((lg_sl (as.map (zc ad)) ++ List.replicate ((MT y).2.2.1 - (lg_sl (as.map (zc ad))).length) Slot.unset).toArray) (zpad (MT y).2.2.1 (zloc as)) := zLs_of (lv_entry (as.map (zc ad)) (by rw [zloc_len]; exact h1)) hlen.symm (fun i v hv => by
      have := zloc_args ad as 0 i v (zpad_gd hv)
      rwa [Nat.zero_add] at this)
    have k3 := kk ad s.heap [] _ ⟨hWF, ⟨Nat.le_refl _, Nat.le_refl _, fun _ _ => rfl⟩, hP, hD, va_S.rf⟩ (fun i v hv => zloc_in hNa i v (zpad_gd hv)) (fun v hv => by cases hv) hl
    rw [Nat.sub_self, Nat.sub_self] at k3
    exact k3
