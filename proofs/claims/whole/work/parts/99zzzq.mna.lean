/-! new int[3][10] -/
def mnO (cA : ClassId) (a i : Nat) : Cell := arrV cA 3 (fun j => if j < i then .ref (a + 1 + j) else .null)
def mnI (cI : ClassId) : Cell := arrV cI 10 (fun _ => .int 0)
def mnS (T : State) (cA cI : ClassId) : Nat → State
  | 0 => T.pushCell (mnO cA T.heap.size 0)
  | i + 1 => ((mnS T cA cI i).pushCell (mnI cI)).setCell T.heap.size (mnO cA T.heap.size (i + 1))
theorem mnO_set (cA : ClassId) (a i : Nat) : (mnO cA a i).setSlot i (.ref (a + 1 + i)) = mnO cA a (i + 1) := by
  unfold mnO
  rw [arrV_store]
  refine congrArg (arrV cA 3) (funext fun j => ?_)
  unfold updV
  by_cases e : j = i
  · subst e
    simp
  · by_cases h : j < i
    · simp [e, h, Nat.lt_succ_of_lt h]
    · simp [e, h, show ¬ j < i + 1 by omega]
theorem mn_facts (T : State) (cA cI : ClassId) : ∀ i, (mnS T cA cI i).heap.size = T.heap.size + 1 + i ∧ (mnS T cA cI i).heap[T.heap.size]? = some (mnO cA T.heap.size i) ∧ (mnS T cA cI i).vm = T.vm ∧ (mnS T cA cI i).slotsUsed = T.slotsUsed + 3 + i * 10 ∧ (∀ q : Nat, q < T.heap.size → (mnS T cA cI i).heap[q]? = T.heap[q]?) ∧ (∀ j : Nat, j < i → (mnS T cA cI i).heap[T.heap.size + 1 + j]? = some (mnI cI))
  | 0 => ⟨by simp [mnS], by simp [mnS], rfl, by simp [mnS, mnO, arrV_size], fun q hq => State.heap_pushCell_of_lt _ _ hq, fun j hj => absurd hj (Nat.not_lt_zero _)⟩
  | i + 1 => by
    obtain ⟨f1, f2, f3, f4, f5, f6⟩ := mn_facts T cA cI i
    have hlt : T.heap.size < (mnS T cA cI i).heap.size := by omega
    have hb : ((mnS T cA cI i).pushCell (mnI cI)).heap[T.heap.size]? = some (mnO cA T.heap.size i) := by rw [State.heap_pushCell_of_lt (h := hlt)]; exact f2
    refine ⟨?_, State.heap_setCell_self hb, by simp [mnS, f3], ?_, fun q hq => ?_, fun j hj => ?_⟩
    · simp [mnS, State.setCell, f1]; omega
    · simp [mnS, f4, mnI, arrV_size]; omega
    · show (((mnS T cA cI i).pushCell (mnI cI)).setCell T.heap.size _).heap[q]? = _
      rw [State.heap_setCell_other (Nat.ne_of_gt hq), State.heap_pushCell_of_lt (h := Nat.lt_trans hq hlt)]
      exact f5 q hq
    · show (((mnS T cA cI i).pushCell (mnI cI)).setCell T.heap.size _).heap[T.heap.size + 1 + j]? = _
      rw [State.heap_setCell_other (show T.heap.size ≠ T.heap.size + 1 + j by omega)]
      rcases Nat.lt_or_ge j i with hj2 | hj2
      · rw [State.heap_pushCell_of_lt (h := (show T.heap.size + 1 + j < (mnS T cA cI i).heap.size by omega))]
        exact f6 j hj2
      · have e : j = i := by omega
        subst e
        rw [← f1]
        exact State.heap_pushCell_size _ _
theorem mn_top (T : State) (f : JFrame) (cA cI : ClassId) : ∀ i, mnS (T.setTop f) cA cI i = (mnS T cA cI i).setTop f
  | 0 => rfl
  | i + 1 => by simp only [mnS, mn_top T f cA cI i, State.heap_setTop, State.pushCell_setTop, State.setCell_setTop]
theorem mn_stand {p : Program} {l : Launch} {e : Env} {R : Room} {s : State} {m : MethodId} {args : Array Value} {below : List Frame} {meth : Method} {c : Code} {T : State} {locs : List Loc} {cells slots : Nat} (X : Stand p l e R s m args below meth c T locs cells slots) (cA cI : ClassId) : ∀ i, Stand p l e R s m args below meth c (mnS T cA cI i) (locs ++ (List.range i).map fun j => ⟨T.heap.size, j⟩) (cells + 1 + i) (slots + 3 + i * 10)
  | 0 => by
    have h := X.pushed (mnO cA T.heap.size 0)
    rw [show (mnO cA T.heap.size 0).slots.size = 3 from arrV_size _ _ _] at h
    simpa [mnS] using h
  | i + 1 => by
    have Xi := mn_stand X cA cI i
    obtain ⟨f1, f2, -, -, -, -⟩ := mn_facts T cA cI i
    have hlt : T.heap.size < (mnS T cA cI i).heap.size := by omega
    have hb : ((mnS T cA cI i).pushCell (mnI cI)).heap[T.heap.size]? = some (mnO cA T.heap.size i) := by rw [State.heap_pushCell_of_lt (h := hlt)]; exact f2
    have h := (Xi.pushed (mnI cI)).stored hb i (.ref (T.heap.size + 1 + i))
    rw [mnO_set, show (mnI cI).slots.size = 10 from arrV_size _ _ _] at h
    have e2 : (locs ++ (List.range (i + 1)).map fun j => (⟨T.heap.size, j⟩ : Loc)) = (locs ++ (List.range i).map fun j => (⟨T.heap.size, j⟩ : Loc)) ++ [⟨T.heap.size, i⟩] := by simp [List.range_succ, List.append_assoc]
    have e3 : slots + 3 + (i + 1) * 10 = slots + 3 + i * 10 + 10 := by omega
    rw [e2, e3]
    exact h
theorem mn_O0 (cA : ClassId) (a : Nat) : ({ cls := cA, slots := Array.replicate 3 .null } : Cell) = mnO cA a 0 := by
  unfold mnO
  refine (arrV_new cA 3 .null).trans (congrArg (arrV cA 3) (funext fun j => ?_))
  rw [if_neg (Nat.not_lt_zero j)]
theorem mn_I0 (cI : ClassId) : ({ cls := cI, slots := Array.replicate 10 (.int 0) } : Cell) = mnI cI := arrV_new cI 10 (.int 0)
theorem mn_row {E : CtlPost} {e : Env} {d : Bool} {acts : List Action} {s : State} {cI cc : ClassId} {kI : Class} (hkI : s.vm.classes[cI]? = some kI) (hkindI : kI.kind = .array cc .int) (hlim : 10 ≤ e.platform.arrayLengthLimit) (hmax : 40 ≤ e.platform.maxHeapBytes) (h1 : s.heap.size < e.platform.maxCells) (h2 : s.slotsUsed + 10 ≤ e.platform.maxSlots)
    {Q : Addr → Pre} (hq : ∀ acts', Q s.heap.size d acts' (s.pushCell (mnI cI))) : wp (Op.multianewarray.make cI [10]) Q E e d acts s := by
  rw [Op.multianewarray.make]
  simp only [wp_bind', W.ite, show ¬ (10 : Int32) < 0 from by decide, if_false, wp_pure', W.theClass, hkI, hkindI, Option.some.injEq, exists_eq_left']
  refine W.newArray_of (howMany := 10) hkI hkindI (by omega) (by show ¬ 10 * 4 > _; omega) h1 h2 rfl (fun acts1 => ?_)
  rw [show (defaultValue .int) = .int 0 from rfl, mn_I0]
  exact hq acts1
theorem mn_make {E : CtlPost} {e : Env} {d : Bool} {acts : List Action} {s : State} {cA cI cc : ClassId} {kA kI : Class} (hk : s.vm.classes[cA]? = some kA) (hkind : kA.kind = .array cI (.array .int)) (hkI : s.vm.classes[cI]? = some kI) (hkindI : kI.kind = .array cc .int) (hlim : 10 ≤ e.platform.arrayLengthLimit) (hmax : 40 ≤ e.platform.maxHeapBytes) (hc : s.heap.size + 4 ≤ e.platform.maxCells) (hs : s.slotsUsed + 33 ≤ e.platform.maxSlots)
    {Q : Addr → Pre} (hq : ∀ d' acts', Q s.heap.size d' acts' (mnS s cA cI 3)) : wp (Op.multianewarray.make cA [3, 10]) Q E e d acts s := by
  have hfind : ([(10 : Int32)].find? (· < 0)) = none := by decide
  rw [Op.multianewarray.make]
  simp only [wp_bind', W.ite, show ¬ (3 : Int32) < 0 from by decide, if_false, wp_pure', W.theClass, hk, hkind, Option.some.injEq, exists_eq_left']
  refine W.newArray_of (howMany := 3) hk hkind (by omega) (by show ¬ 3 * 4 > _; omega) (by omega) (by omega) rfl (fun acts1 => ?_)
  rw [mn_O0 cA s.heap.size]
  simp only [hfind]
  rw [ite_self, wp_bind', Std.Legacy.Range.forIn_eq_forIn_range']
  show wp (forIn (List.range' 0 3 1) PUnit.unit _) _ E e d acts1 (mnS s cA cI 0)
  refine wp_forIn_inv (fun rest s' => ∃ i, i ≤ 3 ∧ rest = List.range' i (3 - i) ∧ s' = mnS s cA cI i) _ _ ⟨0, Nat.zero_le _, rfl, rfl⟩ ?_ ?_
  · rintro x rest s' d' acts' Q' ⟨i, hi, hl, rfl⟩ hnext
    have hlt : i < 3 := by
      rcases Nat.lt_or_ge i 3 with h | h
      · exact h
      · rw [show 3 - i = 0 by omega] at hl
        cases hl
    rw [show 3 - i = (3 - (i + 1)) + 1 by omega, List.range'_succ] at hl
    obtain ⟨rfl, rfl⟩ := List.cons.inj hl
    obtain ⟨f1, f2, f3, f4, -, -⟩ := mn_facts s cA cI x
    have hmul : x * 10 + 10 ≤ 30 := by omega
    have hlt0 : s.heap.size < (mnS s cA cI x).heap.size := by omega
    simp only [wp_bind']
    refine mn_row (by rw [f3]; exact hkI) hkindI hlim hmax (by rw [f1]; omega) (by rw [f4]; omega) (fun acts2 => ?_)
    simp only [wp_bind', W.writeLoc, wp_pure']
    refine ⟨mnO cA s.heap.size x, by rw [State.heap_pushCell_of_lt (h := hlt0)]; exact f2, (fun h => by cases h), by rw [show (mnO cA s.heap.size x).slots.size = 3 from arrV_size _ _ _]; exact hlt, ?_, hnext _ _ _ ⟨x + 1, hlt, rfl, ?_⟩⟩
    · simp [mnO, arrV, State.fitsSlot, State.slotType?, f3, hk, hkind, fits]
    · rw [f1, mnO_set]; rfl
  · rintro s' d' acts' ⟨i, hi, hl, rfl⟩
    have h3 : i = 3 := by
      rcases Nat.lt_or_ge i 3 with h | h
      · rw [show 3 - i = (3 - (i + 1)) + 1 by omega, List.range'_succ] at hl
        cases hl
      · omega
    subst h3
    simp only [wp_pure']
    exact hq _ _
theorem W_mna {p : Program} {l : Launch} {e : Env} {R : Room} {s : State} {m : MethodId} {args : Array Value} {below : List Frame} {meth : Method} {c : Code} {Q : State → Prop} {cc : ByteArray} {pc : Nat} {ls : Array Slot} {rest : List Value} {H : Heap} {locs : List Loc} {cells slots : Nat} (hx : p.tables.exec = Jvm.exec) (hb : c.code = cc) {own : String} {index : Nat} (hown : s.vm.findClass own = some m.cls) (hclink : (Cond.classLink own index ("[" ++ (FieldType.array .int).toString)).before args s = true) (hover : (Cond.arrayOver (.array .int)).before args s = true) (harr : (Cond.arrayClass .int).before args s = true) (hcells : cells + 4 ≤ R.cells) (hslots : slots + 33 ≤ R.slots) (hdg : decode cc pc = .ok (.multianewarray index 2, 4))
    (kk : ∀ (cA cI : ClassId) (H1 : Heap) (locs1 : List Loc), s.vm.findClass ("[" ++ (FieldType.array .int).toString) = some cA → s.vm.findClass (FieldType.array .int).toString = some cI → H1.size = H.size + 4 → (∀ q : Nat, q < H.size → H1[q]? = H[q]?) → H1[H.size]? = some (mnO cA H.size 3) → (∀ j : Nat, j < 3 → H1[H.size + 1 + j]? = some (mnI cI)) → (∀ q ∈ locs1, q ∈ locs ∨ q.base = H.size) →
      W p l e R s m args below meth c H1 locs1 (cells + 4) (slots + 33) Q (F0 m (pc + 4) ls (.ref H.size :: rest))) : W p l e R s m args below meth c H locs cells slots Q (F0 m pc ls (.int 10 :: .int 3 :: rest)) := by
  intro T hT X
  subst hT
  subst hb
  have hpl : e.platform.magicAccessors = ({} : Platform).magicAccessors := by rw [X.admits.platform]
  obtain ⟨cI, cA, kA, hcomp, -, hkA, hkindA, hnameA⟩ := arrayOverA_spec hover
  obtain ⟨cI', kI, cc', hcomp', hkI, hkindI⟩ := Cond.arrayClass_spec harr
  have ecomp : cI' = cI := Option.some.inj (hcomp'.symm.trans hcomp)
  subst ecomp
  obtain ⟨c0, hfc0, hcl⟩ := Cond.classLink_spec hown hclink e.platform hpl
  have ec0 : cA = c0 := Option.some.inj (hnameA.symm.trans hfc0)
  subst ec0
  obtain ⟨hg₁, hwarm₁, hready₁⟩ := State.classEntry (e := e) X.warmed hcl
  generalize T.vm.noted m.cls index (.cls cA) = vm₁ at hg₁ hwarm₁ hready₁
  have hal : s.vm.Alike vm₁ := hwarm₁.alike
  obtain ⟨kA₁, hkA₁, heA⟩ := hal.2.2 _ _ hkA
  obtain ⟨kI₁, hkI₁, heI⟩ := hal.2.2 _ _ hkI
  have hkindA₁ : kA₁.kind = .array cI' (.array .int) := by rw [heA]; exact hkindA
  have hkindI₁ : kI₁.kind = .array cc' .int := by rw [heI]; exact hkindI
  have X₁ := X.noted hwarm₁
  obtain ⟨hr1, hr2⟩ := X.roomAbove hcells hslots
  have XF := mn_stand X₁ cA cI' 3
  obtain ⟨f1, f2, f3, f4, f5, f6⟩ := mn_facts (T.setVm vm₁) cA cI' 3
  have hsz : (T.setVm vm₁).heap = T.heap := rfl
  obtain ⟨t, a1, b1⟩ := kk cA cI' (mnS (T.setVm vm₁) cA cI' 3).heap (locs ++ (List.range 3).map fun j => ⟨T.heap.size, j⟩) hnameA hcomp f1 f5 f2 f6 (fun q hq => by
    rcases List.mem_append.mp hq with h | h
    · exact Or.inl h
    · obtain ⟨j, -, rfl⟩ := List.mem_map.mp h
      exact Or.inr rfl) (mnS (T.setVm vm₁) cA cI' 3) rfl XF
  refine ⟨t, ?_, b1⟩
  have hl1 : 10 ≤ e.platform.arrayLengthLimit := by rw [Launch.admits_arrayLengthLimit X.admits]; omega
  have hh1 : 40 ≤ e.platform.maxHeapBytes := by rw [Launch.admits_maxHeapBytes X.admits]; omega
  jvm_step X.here [hx, hdg]
  simp only [Op.multianewarray.sem, wp_bind', W.resolveClassAt_links (State.method?_setTop (F0 m pc ls (.int 10 :: .int 3 :: rest)) X.here.top) hg₁]
  rw [W.popN, if_neg (by decide)]
  refine ⟨F0 m pc ls (.int 10 :: .int 3 :: rest), State.topJava?_setTop' (s := T.setVm vm₁) (F0 m pc ls (.int 10 :: .int 3 :: rest)) X.here.top, [.int 3, .int 10], rest, rfl, rfl, ?_⟩
  simp only [List.mapM_cons, List.mapM_nil, wp_bind', wp_pure']
  refine mn_make (kA := kA₁) (kI := kI₁) (cI := cI') (cc := cc') hkA₁ hkindA₁ hkI₁ hkindI₁ hl1 hh1 (by show T.heap.size + 4 ≤ _; omega) (by show T.slotsUsed + 33 ≤ _; omega) (fun d' acts' => ?_)
  have eS : ((T.setTop (F0 m pc ls (.int 10 :: .int 3 :: rest))).setVm vm₁).setTop { F0 m pc ls (.int 10 :: .int 3 :: rest) with stack := rest } = (T.setVm vm₁).setTop { F0 m pc ls (.int 10 :: .int 3 :: rest) with stack := rest } := by
    show ((T.setVm vm₁).setTop (F0 m pc ls (.int 10 :: .int 3 :: rest))).setTop _ = _
    rw [State.setTop_setTop]
  rw [eS, mn_top]
  simp only [wp_bind', W.mark, W.pushRef, State.topJava?_setTop' _ XF.here.top, Option.some.injEq, exists_eq_left', State.setTop_setTop, State.heap_setTop]
  intro acts
  simp [jvm, XF.here.top]
  exact a1

theorem va_D_snoc {A : Nat → Prop} {ws : va_W} {q : Nat} {e : va_E} (hD : va_D A ws) (hq : A q) (hne : ∀ x ∈ ws, x.1 ≠ q) : va_D A (ws ++ [(q, e)]) := by
  refine hD.app ⟨fun i j p r hi hj _ => ?_, fun k x hx => ?_⟩ (fun i j p r hi hj => ?_)
  · have a := (List.getElem?_eq_some_iff.mp hi).1
    have b := (List.getElem?_eq_some_iff.mp hj).1
    simp at a b
    omega
  · have a := (List.getElem?_eq_some_iff.mp hx).1
    simp at a
    subst a
    cases hx
    exact hq
  · have b := (List.getElem?_eq_some_iff.mp hj).1
    simp at b
    subst b
    cases hj
    exact hne p (List.mem_of_getElem? hi)
theorem va_P_snoc {D : va_G} {cl : List vw_C} {ws : va_W} {H : Heap} {q : Nat} {cA : ClassId} {a : vp_A} (hP : va_P D cl ws H) (h : H[q]? = some (vp_cell cA a)) : va_P D cl (ws ++ [(q, .inl (cA, a))]) H := hP.app (fun k x hx => by
  have a := (List.getElem?_eq_some_iff.mp hx).1
  simp at a
  subst a
  cases hx
  exact h)
def dfm (n : Int) : Int → Int := fun j => if j = 0 then n else if j = 1 then n + 1 else if j = 2 then n + 2 else -1
def h4m (h : zH) : zH := znew (znew (znew (znew h (100 : Nat) (10 : Nat) (10 : Nat) (fun _ => 0)) (100 : Nat) (10 : Nat) (10 : Nat) (fun _ => 0)) (100 : Nat) (10 : Nat) (10 : Nat) (fun _ => 0)) (104 : Nat) (3 : Nat) (3 : Nat) (dfm (h (-1) 0))
theorem zEo_row {EL : Nat → Nat × Nat} {h : zH} (j : Int) : zEo EL h 100 ((fun _ => 0 : Int → Int) j) := ⟨fun _ => z0_in, fun _ => zI64_of z0_in, fun _ => Or.inl rfl, fun z => absurd z (by decide)⟩
set_option maxHeartbeats 4000000 in
theorem zs_mna {p : Program} {l : Launch} {e : Env} {R : Room} {s : State} {m : MethodId} {args : Array Value} {below : List Frame} {meth : Method} {c : Code} {Q : State → Prop} {D : va_G} {cl : List vw_C} {A : Nat → Prop} {H0 : Heap} {n0 s0 : Nat} {ad0 : Nat → Nat} {md : Bool} {FT : Nat → List Nat} {FK : Nat → Nat → Nat × Nat × Int} {EL : Nat → Nat × Nat} {cs : Nat → ClassId} {cc : ByteArray} {pc : Nat} {L : zL} {S : List zV} {h : zH} {SC : String} (hx : p.tables.exec = Jvm.exec) (hb : c.code = cc) (hK : va_K D cl (ztys cs SC) s) (hA : ∀ q, H0.size ≤ q → A q) {own : String} {index : Nat} (hown : s.vm.findClass own = some m.cls) (hclink : (Cond.classLink own index ("[" ++ (FieldType.array .int).toString)).before args s = true) (hover : (Cond.arrayOver (.array .int)).before args s = true) (harr : (Cond.arrayClass .int).before args s = true) (hEL : EL 104 = (100, 10)) (hR : 0 ≤ h (-1) 1 → zn h + 4 - n0 ≤ R.cells ∧ zsl h + 33 - s0 ≤ R.slots) (hd : decode cc pc = .ok (.multianewarray index 2, 4)) (k : zAW p l e R s m args below meth c Q D cl A H0 n0 s0 ad0 md FT FK EL cs (pc + 4) L (.inr (.inr (h (-1) 0 + 3, 104, 3)) :: S) (h4m h)) : zAW p l e R s m args below meth c Q D cl A H0 n0 s0 ad0 md FT FK EL cs pc L (.inl 10 :: .inl 3 :: S) h := by
  intro ad H locs ls hSt hL hS hl
  have q1 := hSt.2.1.1
  have q2 := hSt.2.1.2.1
  have w1 := hSt.1.1
  have hR := hR hSt.1.2.1
  have hS2 : zNS h S := zNS_t (zNS_t hS)
  refine W_mna hx hb hown hclink hover harr (by have := hR.1; omega) (by have := hR.2; omega) hd (fun cA cI H1 locs1 fA fI z1 o1 e0 e1 hl1 => ?_)
  have ecA : cA = cs 104 := Option.some.inj (fA.symm.trans (hK.2 4 (cs 104, .array .int) rfl).2)
  have ecI : cI = cs 100 := Option.some.inj (fI.symm.trans (hK.2 0 (cs 100, .int) rfl).2)
  subst ecA
  subst ecI
  have hsz := hSt.2.2.2.2.1
  have hP0 : va_P D cl (zw FT cs ad h) H1 := hSt.2.2.1.kept (fun k x hx => o1 x.1 ((hSt.2.2.1 k x hx).lt))
  have hlt : ∀ x ∈ zw FT cs ad h, x.1 < H.size := fun x hx => by
    obtain ⟨k, hk⟩ := List.getElem?_of_mem hx
    exact (hSt.2.2.1 k x hk).lt
  have hS1 : va_S A H0 H1 locs1 := ⟨by omega, fun q h1 h2 => (o1 q (Nat.lt_of_lt_of_le h1 hsz)).trans (hSt.2.2.2.2.2.1 q h1 h2), fun q hq => by
    rcases hl1 q hq with z | z
    · exact hSt.2.2.2.2.2.2 q z
    · rw [z]; exact hA _ hsz⟩
  have eR : mnI (cs 100) = vp_cell (cs 100) (10, .inl (fun _ => 0)) := rfl
  -- the rows
  obtain ⟨s1, y1, n1, l1, r1, x1⟩ := zSt_grow (q := H.size + 1) (kd := 100) (w := 10) (ns := 10) (df := fun _ => 0) (ce := .inl (cs 100, (10, .inl (fun _ => 0)))) hSt (zCk_arr w1 (by omega) (by omega) zEo_row) rfl (va_P_snoc hP0 (by rw [← eR]; exact e1 0 (by omega))) (va_D_snoc hSt.2.2.2.1 (hA _ (by omega)) (fun x hx => by have := hlt x hx; omega)) hS1
  obtain ⟨s2, y2, n2, l2, r2, x2⟩ := zSt_grow (q := H.size + 2) (kd := 100) (w := 10) (ns := 10) (df := fun _ => 0) (ce := .inl (cs 100, (10, .inl (fun _ => 0)))) s1 (zCk_arr s1.1.1 (by omega) (by omega) zEo_row) rfl (va_P_snoc s1.2.2.1 (by rw [← eR]; exact e1 1 (by omega))) (va_D_snoc s1.2.2.2.1 (hA _ (by omega)) (fun x hx => by
    rw [y1] at hx
    rcases List.mem_append.mp hx with z | z
    · have := hlt x z; omega
    · rw [List.mem_singleton.mp z]; show H.size + 1 ≠ H.size + 2; omega)) hS1
  obtain ⟨s3, y3, n3, l3, r3, x3⟩ := zSt_grow (q := H.size + 3) (kd := 100) (w := 10) (ns := 10) (df := fun _ => 0) (ce := .inl (cs 100, (10, .inl (fun _ => 0)))) s2 (zCk_arr s2.1.1 (by omega) (by omega) zEo_row) rfl (va_P_snoc s2.2.2.1 (by rw [← eR]; exact e1 2 (by omega))) (va_D_snoc s2.2.2.2.1 (hA _ (by omega)) (fun x hx => by
    rw [y2, y1] at hx
    rcases List.mem_append.mp hx with z | z
    · rcases List.mem_append.mp z with z | z
      · have := hlt x z; omega
      · rw [List.mem_singleton.mp z]; show H.size + 1 ≠ H.size + 3; omega
    · rw [List.mem_singleton.mp z]; show H.size + 2 ≠ H.size + 3; omega)) hS1
  have z1' : znew h (100 : Nat) (10 : Nat) (10 : Nat) (fun _ => 0) (-1) 0 = h (-1) 0 + 1 := znew_n
  have z2' : znew (znew h (100 : Nat) (10 : Nat) (10 : Nat) (fun _ => 0)) (100 : Nat) (10 : Nat) (10 : Nat) (fun _ => 0) (-1) 0 = h (-1) 0 + 2 := by rw [znew_n, z1']; omega
  have z3' : znew (znew (znew h (100 : Nat) (10 : Nat) (10 : Nat) (fun _ => 0)) (100 : Nat) (10 : Nat) (10 : Nat) (fun _ => 0)) (100 : Nat) (10 : Nat) (10 : Nat) (fun _ => 0) (-1) 0 = h (-1) 0 + 3 := by rw [znew_n, z2']; omega
  generalize eh1 : znew h (100 : Nat) (10 : Nat) (10 : Nat) (fun _ => 0) = h1 at *
  generalize eh2 : znew h1 (100 : Nat) (10 : Nat) (10 : Nat) (fun _ => 0) = h2 at *
  generalize eh3 : znew h2 (100 : Nat) (10 : Nat) (10 : Nat) (fun _ => 0) = h3 at *
  have e4 : h4m h = znew h3 (104 : Nat) (3 : Nat) (3 : Nat) (dfm (h (-1) 0)) := by unfold h4m; rw [eh1, eh2, eh3]
  have enn : ((zn h : Nat) : Int) = h (-1) 0 := by unfold zn; omega
  have x4 : zExt h3 (znew h3 (104 : Nat) (3 : Nat) (3 : Nat) (dfm (h (-1) 0))) := zExt_new (by omega)
  rw [z1'] at r2
  rw [z2'] at r3
  have hrow : ∀ j : Int, zRef (znew h3 (104 : Nat) (3 : Nat) (3 : Nat) (dfm (h (-1) 0))) (dfm (h (-1) 0) j) 100 10 := fun j => by
    unfold dfm
    by_cases j0 : j = 0
    · rw [if_pos j0]; exact zRef_ext x4 (zRef_ext x3 (zRef_ext x2 r1))
    · rw [if_neg j0]
      by_cases j1 : j = 1
      · rw [if_pos j1]; exact zRef_ext x4 (zRef_ext x3 r2)
      · rw [if_neg j1]
        by_cases j2 : j = 2
        · rw [if_pos j2]; exact zRef_ext x4 r3
        · rw [if_neg j2]; exact Or.inl rfl
  have he : zce FT cs (fun k => if k = zn h3 then H.size else (fun k => if k = zn h2 then H.size + 3 else (fun k => if k = zn h1 then H.size + 2 else (fun k => if k = zn h then H.size + 1 else ad k) k) k) k) 104 3 (dfm (h (-1) 0)) = .inl (cs 104, (3, .inr (.inr (.inr (.inr (fun j => if j < 3 then some (H.size + 1 + j) else none)))))) := by
    show (.inl (cs 104, 3, .inr (.inr (.inr (.inr (fun j : Nat => zro _ (dfm (h (-1) 0) (j : Int))))))) : va_E) = _
    have q : (fun j : Nat => zro (fun k => if k = zn h3 then H.size else (fun k => if k = zn h2 then H.size + 3 else (fun k => if k = zn h1 then H.size + 2 else (fun k => if k = zn h then H.size + 1 else ad k) k) k) k) (dfm (h (-1) 0) (j : Int))) = fun j => if j < 3 then some (H.size + 1 + j) else none := by
      funext j
      unfold dfm zro
      simp only
      rcases (show j = 0 ∨ j = 1 ∨ j = 2 ∨ 3 ≤ j by omega) with e | e | e | e
      · subst e
        rw [if_pos (show ((0 : Nat) : Int) = 0 from rfl), if_neg (by omega), if_neg (by omega), if_neg (by omega), if_neg (by omega), if_pos (by omega), if_pos (by omega)]
      · subst e
        rw [if_neg (show ¬ ((1 : Nat) : Int) = 0 by omega), if_pos (show ((1 : Nat) : Int) = 1 from rfl), if_neg (by omega), if_neg (by omega), if_neg (by omega), if_pos (by omega), if_pos (by omega)]
      · subst e
        rw [if_neg (show ¬ ((2 : Nat) : Int) = 0 by omega), if_neg (show ¬ ((2 : Nat) : Int) = 1 by omega), if_pos (show ((2 : Nat) : Int) = 2 from rfl), if_neg (by omega), if_neg (by omega), if_pos (by omega), if_pos (by omega)]
      · rw [if_neg (show ¬ (j : Int) = 0 by omega), if_neg (show ¬ (j : Int) = 1 by omega), if_neg (show ¬ (j : Int) = 2 by omega), if_pos (by omega), if_neg (by omega)]
    rw [q]
  have hc0 : H1[H.size]? = some (vp_cell (cs 104) (3, .inr (.inr (.inr (.inr (fun j => if j < 3 then some (H.size + 1 + j) else none)))))) := by
    rw [e0]
    unfold mnO
    rw [vp_cell_q]
    refine congrArg some (congrArg (arrV (cs 104) 3) (funext fun j => ?_))
    by_cases e : j < 3
    · rw [if_pos e, if_pos e]; rfl
    · rw [if_neg e, if_neg e]; rfl
  obtain ⟨s4, y4, n4, l4, r4, -⟩ := zSt_grow (q := H.size) (kd := 104) (w := 3) (ns := 3) (df := dfm (h (-1) 0)) (ce := .inl (cs 104, (3, .inr (.inr (.inr (.inr (fun j => if j < 3 then some (H.size + 1 + j) else none))))))) s3 (zCk_arr s3.1.1 (by omega) (by omega) (fun j => ⟨fun z => absurd z (by decide), fun z => absurd z (by decide), fun z => absurd z (by decide), fun _ => by rw [hEL]; exact hrow j⟩)) he (va_P_snoc s3.2.2.1 hc0) (va_D_snoc s3.2.2.2.1 (hA _ hsz) (fun x hx => by
    rw [y3, y2, y1] at hx
    rcases List.mem_append.mp hx with z | z
    · rcases List.mem_append.mp z with z | z
      · rcases List.mem_append.mp z with z | z
        · have := hlt x z; omega
        · rw [List.mem_singleton.mp z]; show H.size + 1 ≠ H.size; omega
      · rw [List.mem_singleton.mp z]; show H.size + 2 ≠ H.size; omega
    · rw [List.mem_singleton.mp z]; show H.size + 3 ≠ H.size; omega)) hS1
  have k2 := k _ H1 locs1 ls (by rw [e4]; exact s4) (fun i v hv => by rw [e4]; exact zN_ext x4 (zN_ext x3 (zN_ext x2 (zN_ext x1 (hL i v hv))))) (zNS_c (by rw [e4, ← z3']; exact r4) (fun v hv => by rw [e4]; exact zN_ext x4 (zN_ext x3 (zN_ext x2 (zN_ext x1 (hS2 v hv)))))) (zLs_ext (ad := ad) (fun k hk => by
    rw [if_neg (by omega), if_neg (by omega), if_neg (by omega), if_neg (by omega)]) hL hl)
  rw [List.map_cons, zmap_ext (ad := ad) (fun k hk => by
    rw [if_neg (by omega), if_neg (by omega), if_neg (by omega), if_neg (by omega)]) hS2, zcr (show 0 ≤ h (-1) 0 + 3 by omega), e4, n4, l4, show zn h3 + 1 - n0 = zn h - n0 + 4 by omega, show zsl h3 + 3 - s0 = zsl h - s0 + 33 by omega] at k2
  have eq : (h (-1) 0 + 3).toNat = zn h3 := by omega
  rw [eq] at k2
  simp only [if_pos] at k2
  exact k2
