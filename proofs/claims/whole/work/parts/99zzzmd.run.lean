theorem zseg_soundN {p : Program} {l : Launch} {e : Env} {s : State} {m : MethodId} {args : Array Value} {below : List Frame} {meth : Method} {c : Code} {D : va_G} {cl : List vw_C} {A : Nat → Prop} {n0 s0 : Nat} {ad0 : Nat → Nat} {md : Bool} {FT : Nat → List Nat} {FK : Nat → Nat → Nat × Nat × Int} {EL : Nat → Nat × Nat} {cs : Nat → ClassId} {SC : String} {rk : Int} {d : Nat} {cc : ByteArray} (hx : p.tables.exec = Jvm.exec) (hb : c.code = cc) (hK : va_K D cl (ztys cs SC) s) (hA : ∀ q, s.heap.size ≤ q → A q) {Ts : List Cond} (hts : ∀ w ∈ Ts, w.before args s = true) (hgd : ∀ w ∈ Ts, goodWord w = true) (hnw : ∀ w ∈ zNw, va_Nw w s) {own : String} (hown : s.vm.findClass own = some m.cls) {nL : Nat} (hml : c.maxLocals = nL) (hlo : meth.locks = false) (hret : meth.sig.returnType = zrt rk) {MT : Nat → zMD} {Φ : Nat → List zV → zH → zR} (hΦ : zPsN l Ts cl md FT FK EL SC MT d Φ) {K : zC} (hKs : zKs p l e s m args below meth c D cl A n0 s0 ad0 md FT FK EL cs SC rk d nL K) : ∀ rows : List zRow, (∀ q ∈ rows, zRokN md Ts cl FT FK MT own rk cc q) → zKs p l e s m args below meth c D cl A n0 s0 ad0 md FT FK EL cs SC rk d nL (zseg md FT EL Φ K rows)
  | [], _ => fun pc L S h res hL hz => by cases hz
  | q :: rows, hr => by
    have ih := zseg_soundN hx hb hK hA hts hgd hnw hown hml hlo hret hΦ hKs rows (fun q hq => hr q (List.mem_cons_of_mem _ hq))
    intro t L S h res hL hz
    rw [zseg_cons] at hz
    obtain ⟨r1, r2, r3⟩ := hr q List.mem_cons_self
    by_cases e1 : t = q.1
    · rw [show Nat.beq t q.1 = true by rw [e1]; exact Nat.beq_refl _] at hz
      rw [e1]
      exact zins_soundN hx hb hK hA hts hgd hnw hown hml hlo hret hΦ (zKs_sel _ hKs ih) (zKs_sel _ hKs ih) r1 r2 r3 hL hz
    · rw [show Nat.beq t q.1 = false from by cases hq : Nat.beq t q.1; rfl; exact absurd (Nat.eq_of_beq_eq_true hq) e1] at hz
      exact ih t L S h res hL hz
theorem zev_soundN {p : Program} {l : Launch} {e : Env} {s : State} {m : MethodId} {args : Array Value} {below : List Frame} {meth : Method} {c : Code} {D : va_G} {cl : List vw_C} {A : Nat → Prop} {n0 s0 : Nat} {ad0 : Nat → Nat} {md : Bool} {FT : Nat → List Nat} {FK : Nat → Nat → Nat × Nat × Int} {EL : Nat → Nat × Nat} {cs : Nat → ClassId} {SC : String} {rk : Int} {d : Nat} {cc : ByteArray} (hx : p.tables.exec = Jvm.exec) (hb : c.code = cc) (hK : va_K D cl (ztys cs SC) s) (hA : ∀ q, s.heap.size ≤ q → A q) {Ts : List Cond} (hts : ∀ w ∈ Ts, w.before args s = true) (hgd : ∀ w ∈ Ts, goodWord w = true) (hnw : ∀ w ∈ zNw, va_Nw w s) {own : String} (hown : s.vm.findClass own = some m.cls) {nL : Nat} (hml : c.maxLocals = nL) (hlo : meth.locks = false) (hret : meth.sig.returnType = zrt rk) {MT : Nat → zMD} {Φ : Nat → List zV → zH → zR} (hΦ : zPsN l Ts cl md FT FK EL SC MT d Φ) {rows : List zRow} (ct : List (Nat × List Bool)) (hr : ∀ q ∈ rows, zRokN md Ts cl FT FK MT own rk cc q) : ∀ f, zKs p l e s m args below meth c D cl A n0 s0 ad0 md FT FK EL cs SC rk d nL (zev md FT EL Φ rows ct f)
  | 0 => fun pc L S h res hL hz => by cases hz
  | f + 1 => zseg_soundN hx hb hK hA hts hgd hnw hown hml hlo hret hΦ (zcut_sound ct (zev_soundN hx hb hK hA hts hgd hnw hown hml hlo hret hΦ ct hr f)) rows hr
theorem zrn_soundN {l : Launch} {Ts : List Cond} {cl : List vw_C} {md : Bool} {FT : Nat → List Nat} {FK : Nat → Nat → Nat × Nat × Int} {EL : Nat → Nat × Nat} {SC : String} {MT : Nat → zMD} (hgd : ∀ w ∈ Ts, goodWord w = true) (hMT : ∀ y, zMokN md Ts cl FT FK MT (MT y)) : ∀ d, zPsN l Ts cl md FT FK EL SC MT d (zrn md FT EL MT d)
  | 0 => fun y as h res hz => by cases hz
  | d + 1 => by
    have ih := zrn_soundN (l := l) (SC := SC) (EL := EL) hgd hMT d
    intro y as h res hz
    have hz0 := hz
    obtain ⟨h1, hz⟩ := zck_inv hz
    have h1 := Nat.le_of_ble_eq_true h1
    obtain ⟨F, hz⟩ := (zgo_iff (zrn_ext d) res).mp hz
    obtain ⟨m1, m2, m3⟩ := hMT y
    have hlen : (zpad (MT y).2.2.1 (zloc as)).length = (MT y).2.2.1 := by unfold zpad; rw [List.length_append, List.length_replicate]; omega
    have key : ∀ (p : Program) (e : Env) (s : State) (m : MethodId) (args : Array Value) (below : List Frame) (meth : Method) (c : Code) (D : va_G) (A : Nat → Prop) (n0 s0 : Nat) (ad0 : Nat → Nat) (cs : Nat → ClassId), p.tables.exec = Jvm.exec → c.code = (MT y).2.1 → va_K D cl (ztys cs SC) s → (∀ q, s.heap.size ≤ q → A q) → (∀ w ∈ Ts, w.before args s = true) → (∀ w ∈ zNw, va_Nw w s) → s.vm.findClass (MT y).1.cls = some m.cls → c.maxLocals = (MT y).2.2.1 → meth.locks = false → meth.sig.returnType = zrt (MT y).2.2.2.2.1 → zExt h res.2 ∧ zA p l e s m args below meth c D cl A n0 s0 ad0 md FT FK EL cs SC (MT y).2.2.2.2.1 d res 0 (zpad (MT y).2.2.1 (zloc as)) [] h :=
      fun p e s m args below meth c D A n0 s0 ad0 cs k1 k2 k3 k4 k5 kn k6 k7 k8 k9 => zev_soundN k1 k2 k3 k4 k5 hgd kn k6 k7 k8 k9 ih _ m3 F 0 _ [] h res hlen hz
    refine ⟨zrn_ext (d + 1) y as h res hz0, fun hWF hNa D cs ad sz => ?_⟩
    refine va_MetF (cc := (MT y).2.1) (maxL := (MT y).2.2.1) (ret := (MT y).2.2.2.1) m1 rfl ?_
    intro p e s m args below meth c s₁ B hml hv
    obtain ⟨rfl, ⟨hsz, hP, hK, hD0⟩, hnw⟩ := hv
    have hts0 := atoms_spec (ws := .code (MT y).1 (MT y).2.1 (MT y).2.2.1 (MT y).2.2.2.1 :: Ts) B.pre
    have hts : ∀ w ∈ Ts, w.before (as.map (zc ad)).toArray s = true := fun w hw => hts0 w (List.mem_cons_of_mem _ hw)
    have hown : s.vm.findClass (MT y).1.cls = some m.cls := findClass_of_methodNamed B.named
    subst hsz
    have hD := hD0.self (sz := s.heap.size)
    have kk := (key p e s m (as.map (zc ad)).toArray below meth c D (va_A (zw FT cs ad h) s.heap.size) (zn h) (zsl h) ad cs B.exec B.bytes hK (fun q hq => Or.inr hq) hts hnw hown hml B.notSynchronized (B.returns.trans m2)).2
    rw [lg_entry_eq]
    have hl : zLs ad ((lg_sl (as.map (zc ad)) ++ List.replicate ((MT y).2.2.1 - (lg_sl (as.map (zc ad))).length) Slot.unset).toArray) (zpad (MT y).2.2.1 (zloc as)) := zLs_of (lv_entry (as.map (zc ad)) (by rw [zloc_len]; exact h1)) hlen.symm (fun i v hv => by
      have := zloc_args ad as 0 i v (zpad_gd hv)
      rwa [Nat.zero_add] at this)
    have k3 := kk ad s.heap [] _ ⟨hWF, ⟨Nat.le_refl _, Nat.le_refl _, fun _ _ => rfl⟩, hP, hD, va_S.rf⟩ (fun i v hv => zloc_in hNa i v (zpad_gd hv)) (fun v hv => by cases hv) hl
    rw [Nat.sub_self, Nat.sub_self] at k3
    exact k3
/-- every method that makes nothing, its calls d deep -/
theorem zF_sound (l : Launch) (SC : String) (d : Nat) : zPsN l lw_g vwCl true zFT zFK zEL SC zMT d (zF d) := zrn_soundN lw_good mo_allN d
