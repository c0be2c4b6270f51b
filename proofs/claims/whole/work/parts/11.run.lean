theorem zKs_sel {p : Program} {l : Launch} {e : Env} {s : State} {m : MethodId} {args : Array Value} {below : List Frame} {meth : Method} {c : Code} {D : va_G} {cl : List vw_C} {A : Nat → Prop} {n0 s0 : Nat} {ad0 : Nat → Nat} {md : Bool} {FT : Nat → List Nat} {FK : Nat → Nat → Nat × Nat × Int} {EL : Nat → Nat × Nat} {cs : Nat → ClassId} {SC : String} {rk : Int} {d : Nat} {nL : Nat} (b : Bool) {K N : zC} (h1 : zKs p l e s m args below meth c D cl A n0 s0 ad0 md FT FK EL cs SC rk d nL K) (h2 : zKs p l e s m args below meth c D cl A n0 s0 ad0 md FT FK EL cs SC rk d nL N) : zKs p l e s m args below meth c D cl A n0 s0 ad0 md FT FK EL cs SC rk d nL (match b with | true => K | false => N) := by
  cases b
  · exact h2
  · exact h1
theorem zseg_sound {p : Program} {l : Launch} {e : Env} {s : State} {m : MethodId} {args : Array Value} {below : List Frame} {meth : Method} {c : Code} {D : va_G} {cl : List vw_C} {A : Nat → Prop} {n0 s0 : Nat} {ad0 : Nat → Nat} {md : Bool} {FT : Nat → List Nat} {FK : Nat → Nat → Nat × Nat × Int} {EL : Nat → Nat × Nat} {cs : Nat → ClassId} {SC : String} {rk : Int} {d : Nat} {cc : ByteArray} (hx : p.tables.exec = Jvm.exec) (hb : c.code = cc) (hK : va_K D cl (ztys cs SC) s) (hA : ∀ q, s.heap.size ≤ q → A q) {Ts : List Cond} (hts : ∀ w ∈ Ts, w.before args s = true) (hgd : ∀ w ∈ Ts, goodWord w = true) {own : String} (hown : s.vm.findClass own = some m.cls) {nL : Nat} (hml : c.maxLocals = nL) (hlo : meth.locks = false) (hret : meth.sig.returnType = zrt rk) {MT : Nat → zMD} {Φ : Nat → List zV → zH → zR} (hΦ : zPs l Ts cl md FT FK EL SC MT d Φ) {K : zC} (hKs : zKs p l e s m args below meth c D cl A n0 s0 ad0 md FT FK EL cs SC rk d nL K) : ∀ rows : List zRow, (∀ q ∈ rows, zRok md Ts cl FT FK MT own rk cc q) → zKs p l e s m args below meth c D cl A n0 s0 ad0 md FT FK EL cs SC rk d nL (zseg md FT EL Φ K rows)
  | [], _ => fun pc L S h res hL hz => by cases hz
  | q :: rows, hr => by
    have ih := zseg_sound hx hb hK hA hts hgd hown hml hlo hret hΦ hKs rows (fun q hq => hr q (List.mem_cons_of_mem _ hq))
    intro t L S h res hL hz
    replace hz : (if t = q.1 then zins md FT EL Φ (match q.2.2.2.1 with | true => K | false => zseg md FT EL Φ K rows) (match q.2.2.2.2.1 with | true => K | false => zseg md FT EL Φ K rows) q.1 q.2.2.1 q.2.2.2.2.2 L S h else zseg md FT EL Φ K rows t L S h) = some res := hz
    obtain ⟨r1, r2, r3⟩ := hr q List.mem_cons_self
    by_cases e1 : t = q.1
    · rw [if_pos e1] at hz
      rw [e1]
      exact zins_sound hx hb hK hA hts hgd hown hml hlo hret hΦ (zKs_sel _ hKs ih) (zKs_sel _ hKs ih) r1 r2 r3 hL hz
    · rw [if_neg e1] at hz
      exact ih t L S h res hL hz
theorem zev_sound {p : Program} {l : Launch} {e : Env} {s : State} {m : MethodId} {args : Array Value} {below : List Frame} {meth : Method} {c : Code} {D : va_G} {cl : List vw_C} {A : Nat → Prop} {n0 s0 : Nat} {ad0 : Nat → Nat} {md : Bool} {FT : Nat → List Nat} {FK : Nat → Nat → Nat × Nat × Int} {EL : Nat → Nat × Nat} {cs : Nat → ClassId} {SC : String} {rk : Int} {d : Nat} {cc : ByteArray} (hx : p.tables.exec = Jvm.exec) (hb : c.code = cc) (hK : va_K D cl (ztys cs SC) s) (hA : ∀ q, s.heap.size ≤ q → A q) {Ts : List Cond} (hts : ∀ w ∈ Ts, w.before args s = true) (hgd : ∀ w ∈ Ts, goodWord w = true) {own : String} (hown : s.vm.findClass own = some m.cls) {nL : Nat} (hml : c.maxLocals = nL) (hlo : meth.locks = false) (hret : meth.sig.returnType = zrt rk) {MT : Nat → zMD} {Φ : Nat → List zV → zH → zR} (hΦ : zPs l Ts cl md FT FK EL SC MT d Φ) {rows : List zRow} (hr : ∀ q ∈ rows, zRok md Ts cl FT FK MT own rk cc q) : ∀ f, zKs p l e s m args below meth c D cl A n0 s0 ad0 md FT FK EL cs SC rk d nL (zev md FT EL Φ rows f)
  | 0 => fun pc L S h res hL hz => by cases hz
  | f + 1 => zseg_sound hx hb hK hA hts hgd hown hml hlo hret hΦ (zev_sound hx hb hK hA hts hgd hown hml hlo hret hΦ hr f) rows hr
theorem zloc_args (ad : Nat → Nat) : ∀ (as : List zV) (n i : Nat) (v : zV), (zloc as).getD i none = some v → (n + i, zc ad v) ∈ lv_args n (as.map (zc ad))
  | [], n, i, v, h => by cases i <;> cases h
  | .inl a :: as, n, i, v, h => by
    rw [List.map_cons, lv_args, if_neg (by simp [zc, Value.category])]
    cases i with
    | zero => cases h; exact List.mem_cons_self
    | succ i =>
      have := zloc_args ad as (n + 1) i v h
      rw [show n + (i + 1) = n + 1 + i by omega]
      exact List.mem_cons_of_mem _ this
  | .inr (.inr q) :: as, n, i, v, h => by
    rw [List.map_cons, lv_args, if_neg (fun e => by obtain ⟨a, ha⟩ := (zcat_zc ad _).mp e; cases ha)]
    cases i with
    | zero => cases h; exact List.mem_cons_self
    | succ i =>
      have := zloc_args ad as (n + 1) i v h
      rw [show n + (i + 1) = n + 1 + i by omega]
      exact List.mem_cons_of_mem _ this
  | .inr (.inl a) :: as, n, i, v, h => by
    rw [List.map_cons, lv_args, if_pos (show (zc ad (.inr (.inl a))).category = 2 from rfl)]
    cases i with
    | zero => cases h; exact List.mem_cons_self
    | succ i =>
      cases i with
      | zero => cases h
      | succ i =>
        have := zloc_args ad as (n + 2) i v h
        rw [show n + (i + 1 + 1) = n + 2 + i by omega]
        exact List.mem_cons_of_mem _ this
theorem zloc_len (ad : Nat → Nat) : ∀ as : List zV, (lg_sl (as.map (zc ad))).length = (zloc as).length
  | [] => rfl
  | .inl a :: as => by
    have := zloc_len ad as
    unfold lg_sl at this ⊢
    rw [List.map_cons, List.flatMap_cons, if_neg (by simp [zc, Value.category]), List.length_append, this]
    show 1 + (zloc as).length = (zloc as).length + 1
    omega
  | .inr (.inr q) :: as => by
    have := zloc_len ad as
    unfold lg_sl at this ⊢
    rw [List.map_cons, List.flatMap_cons, if_neg (fun e => by obtain ⟨a, ha⟩ := (zcat_zc ad _).mp e; cases ha), List.length_append, this]
    show 1 + (zloc as).length = (zloc as).length + 1
    omega
  | .inr (.inl a) :: as => by
    have := zloc_len ad as
    unfold lg_sl at this ⊢
    rw [List.map_cons, List.flatMap_cons, if_pos (show (zc ad (.inr (.inl a))).category = 2 from rfl), List.length_append, this]
    show 2 + (zloc as).length = (zloc as).length + 1 + 1
    omega
theorem zloc_in {h : zH} : ∀ {as : List zV}, zNS h as → zNL h (zloc as)
  | [], _, i, v, hv => by cases i <;> cases hv
  | .inl a :: as, hs, i, v, hv => by
    cases i with
    | zero => cases hv; exact zNS_h hs
    | succ i => exact zloc_in (zNS_t hs) i v hv
  | .inr (.inr q) :: as, hs, i, v, hv => by
    cases i with
    | zero => cases hv; exact zNS_h hs
    | succ i => exact zloc_in (zNS_t hs) i v hv
  | .inr (.inl a) :: as, hs, i, v, hv => by
    cases i with
    | zero => cases hv; exact zNS_h hs
    | succ i =>
      cases i with
      | zero => cases hv
      | succ i => exact zloc_in (zNS_t hs) i v hv
theorem zpad_gd {n : Nat} {L : zL} {i : Nat} {v : zV} (h : (zpad n L).getD i none = some v) : L.getD i none = some v := by
  unfold zpad at h
  rw [List.getD_eq_getElem?_getD] at h ⊢
  by_cases e : i < L.length
  · rwa [List.getElem?_append_left e] at h
  · rw [List.getElem?_append_right (by omega), List.getElem?_replicate] at h
    split at h <;> cases h
/-- a method in order: its rows, its name, its answer's type -/
def zMok (md : Bool) (Ts : List Cond) (cl : List vw_C) (FT : Nat → List Nat) (FK : Nat → Nat → Nat × Nat × Int) (MT : Nat → zMD) (M : zMD) : Prop :=
  plainName M.1.cls = true ∧ M.2.2.2.1 = zrt M.2.2.2.2.1 ∧ ∀ q ∈ M.2.2.2.2.2, zRok md Ts cl FT FK MT M.1.cls M.2.2.2.2.1 M.2.1 q
theorem zrun_sound {l : Launch} {Ts : List Cond} {cl : List vw_C} {md : Bool} {FT : Nat → List Nat} {FK : Nat → Nat → Nat × Nat × Int} {EL : Nat → Nat × Nat} {SC : String} {MT : Nat → zMD} {F : Nat} (hgd : ∀ w ∈ Ts, goodWord w = true) (hMT : ∀ y, zMok md Ts cl FT FK MT (MT y)) : ∀ d, zPs l Ts cl md FT FK EL SC MT d (zrun md FT EL F MT d)
  | 0 => fun y as h res hz => by cases hz
  | d + 1 => by
    have ih := zrun_sound (l := l) (SC := SC) (F := F) (EL := EL) hgd hMT d
    intro y as h res hz
    have hz0 := hz
    obtain ⟨h1, hz⟩ := zck_inv hz
    have h1 := Nat.le_of_ble_eq_true h1
    obtain ⟨m1, m2, m3⟩ := hMT y
    have hlen : (zpad (MT y).2.2.1 (zloc as)).length = (MT y).2.2.1 := by unfold zpad; rw [List.length_append, List.length_replicate]; omega
    have key : ∀ (p : Program) (e : Env) (s : State) (m : MethodId) (args : Array Value) (below : List Frame) (meth : Method) (c : Code) (D : va_G) (A : Nat → Prop) (n0 s0 : Nat) (ad0 : Nat → Nat) (cs : Nat → ClassId), p.tables.exec = Jvm.exec → c.code = (MT y).2.1 → va_K D cl (ztys cs SC) s → (∀ q, s.heap.size ≤ q → A q) → (∀ w ∈ Ts, w.before args s = true) → s.vm.findClass (MT y).1.cls = some m.cls → c.maxLocals = (MT y).2.2.1 → meth.locks = false → meth.sig.returnType = zrt (MT y).2.2.2.2.1 → zExt h res.2 ∧ zA p l e s m args below meth c D cl A n0 s0 ad0 md FT FK EL cs SC (MT y).2.2.2.2.1 d res 0 (zpad (MT y).2.2.1 (zloc as)) [] h :=
      fun p e s m args below meth c D A n0 s0 ad0 cs k1 k2 k3 k4 k5 k6 k7 k8 k9 => zev_sound k1 k2 k3 k4 k5 hgd k6 k7 k8 k9 ih m3 F 0 _ [] h res hlen hz
    refine ⟨zrun_ext (d + 1) y as h res hz0, fun hWF hNa D cs ad sz => ?_⟩
    refine Met.ofW (cc := (MT y).2.1) (maxL := (MT y).2.2.1) (ret := (MT y).2.2.2.1) m1 rfl ?_
    intro p e s m args below meth c s₁ B hml hv
    obtain ⟨rfl, hsz, hP, hK, hD0⟩ := hv
    have hts0 := atoms_spec (ws := .code (MT y).1 (MT y).2.1 (MT y).2.2.1 (MT y).2.2.2.1 :: Ts) B.pre
    have hts : ∀ w ∈ Ts, w.before (as.map (zc ad)).toArray s = true := fun w hw => hts0 w (List.mem_cons_of_mem _ hw)
    have hown : s.vm.findClass (MT y).1.cls = some m.cls := findClass_of_methodNamed B.named
    subst hsz
    have hD := hD0.self (sz := s.heap.size)
    have kk := (key p e s m (as.map (zc ad)).toArray below meth c D (va_A (zw FT cs ad h) s.heap.size) (zn h) (zsl h) ad cs B.exec B.bytes hK (fun q hq => Or.inr hq) hts hown hml B.notSynchronized (B.returns.trans m2)).2
    rw [lg_entry_eq]
    have hl : zLs ad ((lg_sl (as.map (zc ad)) ++ List.replicate ((MT y).2.2.1 - (lg_sl (as.map (zc ad))).length) Slot.unset).toArray) (zpad (MT y).2.2.1 (zloc as)) := zLs_of (lv_entry (as.map (zc ad)) (by rw [zloc_len]; exact h1)) hlen.symm (fun i v hv => by
      have := zloc_args ad as 0 i v (zpad_gd hv)
      rwa [Nat.zero_add] at this)
    have k3 := kk ad s.heap [] _ ⟨hWF, ⟨Nat.le_refl _, Nat.le_refl _, fun _ _ => rfl⟩, hP, hD, va_S.rf⟩ (fun i v hv => zloc_in hNa i v (zpad_gd hv)) (fun v hv => by cases hv) hl
    rw [Nat.sub_self, Nat.sub_self] at k3
    exact k3
