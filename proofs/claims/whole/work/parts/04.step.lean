def zSt (D : va_G) (cl : List vw_C) (A : Nat → Prop) (H0 : Heap) (n0 s0 : Nat) (ad0 : Nat → Nat) (md : Bool) (FT : Nat → List Nat) (FK : Nat → Nat → Nat × Nat × Int) (EL : Nat → Nat × Nat) (cs : Nat → ClassId) (ad : Nat → Nat) (h : zH) (H : Heap) (locs : List Loc) : Prop :=
  zWF md FT FK EL h ∧ (n0 ≤ zn h ∧ s0 ≤ zsl h ∧ ∀ k, k < n0 → ad k = ad0 k) ∧ va_P D cl (zw FT cs ad h) H ∧ va_D A (zw FT cs ad h) ∧ va_S A H0 H locs
def zla (ad : Nat → Nat) (L : zL) : List (Nat × Value) := (List.range L.length).filterMap (fun i => (L.getD i none).map (fun v => (i, zc ad v)))
theorem zla_mem {ad : Nat → Nat} {L : zL} {q : Nat × Value} : q ∈ zla ad L ↔ ∃ v, L.getD q.1 none = some v ∧ q.2 = zc ad v := by
  unfold zla
  rw [List.mem_filterMap]
  constructor
  · rintro ⟨i, hi, h⟩
    cases hv : L.getD i none with
    | none => rw [hv] at h; cases h
    | some v => rw [hv] at h; cases h; exact ⟨v, hv, rfl⟩
  · rintro ⟨v, hv, hq⟩
    refine ⟨q.1, List.mem_range.mpr ?_, ?_⟩
    · apply Nat.lt_of_not_le
      intro hle
      rw [List.getD_eq_getElem?_getD, List.getElem?_eq_none hle] at hv
      cases hv
    · rw [hv]; simp only [Option.map_some]; rw [← hq]
def zLs (ad : Nat → Nat) (ls : Array Slot) (L : zL) : Prop := lv_has ls L.length (zla ad L)
theorem zLs_at {ad : Nat → Nat} {ls : Array Slot} {L : zL} (hl : zLs ad ls L) {n : Nat} {v : zV} (hv : L.getD n none = some v) : ls[n]? = some (.val (zc ad v)) := hl.2.2 (n, zc ad v) (zla_mem.mpr ⟨v, hv, rfl⟩)
theorem zLs_of {ad : Nat → Nat} {ls : Array Slot} {L : zL} {nL : Nat} {lv : List (Nat × Value)} (h : lv_has ls nL lv) (hn : nL = L.length) (hs : ∀ (i : Nat) (v : zV), L.getD i none = some v → (i, zc ad v) ∈ lv) : zLs ad ls L := by
  subst hn
  refine ⟨h.1, h.2.1, fun q hq => ?_⟩
  obtain ⟨v, hv, e⟩ := zla_mem.mp hq
  have := h.2.2 (q.1, zc ad v) (hs q.1 v hv)
  rw [e]; exact this
def zNS (h : zH) (S : List zV) : Prop := ∀ v ∈ S, zN h v
def zNL (h : zH) (L : zL) : Prop := ∀ (i : Nat) (v : zV), L.getD i none = some v → zN h v
theorem zNS_c {h : zH} {v : zV} {S : List zV} (h1 : zN h v) (h2 : zNS h S) : zNS h (v :: S) := fun w hw => (List.mem_cons.mp hw).elim (fun e => e ▸ h1) (h2 w)
theorem zNS_h {h : zH} {v : zV} {S : List zV} (hs : zNS h (v :: S)) : zN h v := hs v List.mem_cons_self
theorem zNS_t {h : zH} {v : zV} {S : List zV} (hs : zNS h (v :: S)) : zNS h S := fun w hw => hs w (List.mem_cons_of_mem _ hw)
theorem zclr_len (L : zL) (n : Nat) : (zclr L n).length = L.length := by
  cases n with
  | zero => rfl
  | succ m =>
    show (match L.getD m none with | some (.inr (.inl _)) => L.set m none | _ => L).length = L.length
    split <;> simp
theorem zst1_len (L : zL) (n : Nat) (v : zV) : (zst1 L n v).length = L.length := by simp [zst1, zclr_len]
theorem zst2_len (L : zL) (n : Nat) (v : zV) : (zst2 L n v).length = L.length := by simp [zst2, zclr_len]
theorem zgd_set {L : zL} {n i : Nat} {x : Option zV} {v : zV} (h : (L.set n x).getD i none = some v) : (i = n ∧ x = some v) ∨ (i ≠ n ∧ L.getD i none = some v) := by
  rw [List.getD_eq_getElem?_getD, List.getElem?_set] at h
  by_cases e : n = i
  · rw [if_pos e] at h
    by_cases e2 : n < L.length
    · rw [if_pos e2] at h; exact Or.inl ⟨e.symm, h⟩
    · rw [if_neg e2] at h; cases h
  · rw [if_neg e] at h
    rw [← List.getD_eq_getElem?_getD] at h
    exact Or.inr ⟨fun q => e q.symm, h⟩
theorem zclr_gd {L : zL} {n i : Nat} {v : zV} (h : (zclr L n).getD i none = some v) : L.getD i none = some v ∧ ∀ a, i + 1 = n → v ≠ .inr (.inl a) := by
  cases n with
  | zero => exact ⟨h, fun a q => by omega⟩
  | succ m =>
    replace h : (match L.getD m none with | some (.inr (.inl _)) => L.set m none | _ => L).getD i none = some v := h
    split at h
    · rename_i a ha
      rcases zgd_set h with ⟨_, q⟩ | ⟨q1, q2⟩
      · cases q
      · exact ⟨q2, fun a q => absurd (by omega) q1⟩
    · rename_i hn
      refine ⟨h, fun a q e => ?_⟩
      have : i = m := by omega
      subst this
      exact hn a (by rw [h, e])
theorem zcat_zc (ad : Nat → Nat) (v : zV) : (zc ad v).category = 2 ↔ ∃ a, v = .inr (.inl a) := by
  rcases v with a | a | q
  · exact ⟨fun h => by simp [zc, Value.category] at h, fun ⟨_, h⟩ => by cases h⟩
  · exact ⟨fun _ => ⟨a, rfl⟩, fun _ => rfl⟩
  · refine ⟨fun h => ?_, fun ⟨_, h⟩ => by cases h⟩
    have h : (va_rf (zro ad q.1)).category = 2 := h
    cases hz : zro ad q.1 with
    | none => rw [hz] at h; simp [va_rf, Value.category] at h
    | some x => rw [hz] at h; simp [va_rf, Value.category] at h
theorem zNL_st1 {h : zH} {L : zL} {n : Nat} {v : zV} (hL : zNL h L) (hv : zN h v) : zNL h (zst1 L n v) := by
  intro i w hw
  rcases zgd_set hw with ⟨_, q⟩ | ⟨_, q⟩
  · cases q; exact hv
  · exact hL i w (zclr_gd q).1
theorem zNL_st2 {h : zH} {L : zL} {n : Nat} {v : zV} (hL : zNL h L) (hv : zN h v) : zNL h (zst2 L n v) := by
  intro i w hw
  rcases zgd_set hw with ⟨_, q⟩ | ⟨_, q⟩
  · cases q; exact hv
  · rcases zgd_set q with ⟨_, q⟩ | ⟨_, q⟩
    · cases q
    · exact hL i w (zclr_gd q).1
theorem zLs_st1 {ad : Nat → Nat} {ls : Array Slot} {L : zL} {n : Nat} {v : zV} (h : lv_has ls L.length ((n, zc ad v) :: (zla ad L).filter (fun q => !(q.1 == n) && !(q.1 + 1 == n && q.2.category == 2)))) : zLs ad ls (zst1 L n v) := by
  refine zLs_of h (zst1_len L n v).symm fun i w hw => ?_
  rcases zgd_set hw with ⟨e, q⟩ | ⟨e, q⟩
  · cases q; rw [e]; exact List.mem_cons_self
  · obtain ⟨q1, q2⟩ := zclr_gd q
    refine List.mem_cons_of_mem _ (List.mem_filter.mpr ⟨zla_mem.mpr ⟨w, q1, rfl⟩, ?_⟩)
    have h2 : (i + 1 == n && (zc ad w).category == 2) = false := by
      rw [Bool.and_eq_false_iff]
      by_cases e2 : i + 1 = n
      · refine Or.inr ?_
        rw [beq_eq_false_iff_ne]
        intro hc
        obtain ⟨a, ha⟩ := (zcat_zc ad w).mp hc
        exact q2 a e2 ha
      · exact Or.inl (beq_eq_false_iff_ne.mpr e2)
    have h1 : (i == n) = false := beq_eq_false_iff_ne.mpr e
    show (!(i == n) && !(i + 1 == n && (zc ad w).category == 2)) = true
    rw [h1, h2]; rfl
theorem zLs_st2 {ad : Nat → Nat} {ls : Array Slot} {L : zL} {n : Nat} {v : zV} (h : lv_has ls L.length ((n, zc ad v) :: (zla ad L).filter (fun q => !(q.1 == n) && (!(q.1 == n + 1) && !(q.1 + 1 == n && q.2.category == 2))))) : zLs ad ls (zst2 L n v) := by
  refine zLs_of h (zst2_len L n v).symm fun i w hw => ?_
  rcases zgd_set hw with ⟨e, q⟩ | ⟨e, q⟩
  · cases q; rw [e]; exact List.mem_cons_self
  · rcases zgd_set q with ⟨_, q⟩ | ⟨e3, q⟩
    · cases q
    obtain ⟨q1, q2⟩ := zclr_gd q
    refine List.mem_cons_of_mem _ (List.mem_filter.mpr ⟨zla_mem.mpr ⟨w, q1, rfl⟩, ?_⟩)
    have h2 : (i + 1 == n && (zc ad w).category == 2) = false := by
      rw [Bool.and_eq_false_iff]
      by_cases e2 : i + 1 = n
      · refine Or.inr ?_
        rw [beq_eq_false_iff_ne]
        intro hc
        obtain ⟨a, ha⟩ := (zcat_zc ad w).mp hc
        exact q2 a e2 ha
      · exact Or.inl (beq_eq_false_iff_ne.mpr e2)
    have h1 : (i == n) = false := beq_eq_false_iff_ne.mpr e
    have h3 : (i == n + 1) = false := beq_eq_false_iff_ne.mpr e3
    show (!(i == n) && (!(i == n + 1) && !(i + 1 == n && (zc ad w).category == 2))) = true
    rw [h1, h2, h3]; rfl
def zAW (p : Program) (l : Launch) (e : Env) (R : Room) (s : State) (m : MethodId) (args : Array Value) (below : List Frame) (meth : Method) (c : Code) (Q : State → Prop) (D : va_G) (cl : List vw_C) (A : Nat → Prop) (H0 : Heap) (n0 s0 : Nat) (ad0 : Nat → Nat) (md : Bool) (FT : Nat → List Nat) (FK : Nat → Nat → Nat × Nat × Int) (EL : Nat → Nat × Nat) (cs : Nat → ClassId) (pc : Nat) (L : zL) (S : List zV) (h : zH) : Prop :=
  ∀ (ad : Nat → Nat) (H : Heap) (locs : List Loc) (ls : Array Slot), zSt D cl A H0 n0 s0 ad0 md FT FK EL cs ad h H locs → zNL h L → zNS h S → zLs ad ls L → W p l e R s m args below meth c H locs (zn h - n0) (zsl h - s0) Q (F0 m pc ls (S.map (zc ad)))
theorem zs_iconst {p : Program} {l : Launch} {e : Env} {R : Room} {s : State} {m : MethodId} {args : Array Value} {below : List Frame} {meth : Method} {c : Code} {Q : State → Prop} {D : va_G} {cl : List vw_C} {A : Nat → Prop} {H0 : Heap} {n0 s0 : Nat} {ad0 : Nat → Nat} {md : Bool} {FT : Nat → List Nat} {FK : Nat → Nat → Nat × Nat × Int} {EL : Nat → Nat × Nat} {cs : Nat → ClassId} {cc : ByteArray} {pc : Nat} {L : zL} {S : List zV} {h : zH} (hx : p.tables.exec = Jvm.exec) (hb : c.code = cc) {v : Int} (hd : decode cc pc = .ok (.iconst v, 1)) (hv : zI32 v) (k : zAW p l e R s m args below meth c Q D cl A H0 n0 s0 ad0 md FT FK EL cs (pc + 1) L (.inl v :: S) h) : zAW p l e R s m args below meth c Q D cl A H0 n0 s0 ad0 md FT FK EL cs pc L S h := by
  intro ad H locs ls hSt hL hS hl
  exact lv_iconst hx hb hd rfl (k ad H locs ls hSt hL (zNS_c hv hS) hl)
theorem zs_bipush {p : Program} {l : Launch} {e : Env} {R : Room} {s : State} {m : MethodId} {args : Array Value} {below : List Frame} {meth : Method} {c : Code} {Q : State → Prop} {D : va_G} {cl : List vw_C} {A : Nat → Prop} {H0 : Heap} {n0 s0 : Nat} {ad0 : Nat → Nat} {md : Bool} {FT : Nat → List Nat} {FK : Nat → Nat → Nat × Nat × Int} {EL : Nat → Nat × Nat} {cs : Nat → ClassId} {cc : ByteArray} {pc : Nat} {L : zL} {S : List zV} {h : zH} (hx : p.tables.exec = Jvm.exec) (hb : c.code = cc) {i v : Int} (hd : decode cc pc = .ok (.bipush i, 2)) (hv : zI32 v) (he : (Int8.ofInt i).toInt32 = Int32.ofInt v) (k : zAW p l e R s m args below meth c Q D cl A H0 n0 s0 ad0 md FT FK EL cs (pc + 2) L (.inl v :: S) h) : zAW p l e R s m args below meth c Q D cl A H0 n0 s0 ad0 md FT FK EL cs pc L S h := by
  intro ad H locs ls hSt hL hS hl
  exact lv_bipush hx hb hd he (k ad H locs ls hSt hL (zNS_c hv hS) hl)
theorem zs_sipush {p : Program} {l : Launch} {e : Env} {R : Room} {s : State} {m : MethodId} {args : Array Value} {below : List Frame} {meth : Method} {c : Code} {Q : State → Prop} {D : va_G} {cl : List vw_C} {A : Nat → Prop} {H0 : Heap} {n0 s0 : Nat} {ad0 : Nat → Nat} {md : Bool} {FT : Nat → List Nat} {FK : Nat → Nat → Nat × Nat × Int} {EL : Nat → Nat × Nat} {cs : Nat → ClassId} {cc : ByteArray} {pc : Nat} {L : zL} {S : List zV} {h : zH} (hx : p.tables.exec = Jvm.exec) (hb : c.code = cc) {i v : Int} (hd : decode cc pc = .ok (.sipush i, 3)) (hv : zI32 v) (he : (Int16.ofInt i).toInt32 = Int32.ofInt v) (k : zAW p l e R s m args below meth c Q D cl A H0 n0 s0 ad0 md FT FK EL cs (pc + 3) L (.inl v :: S) h) : zAW p l e R s m args below meth c Q D cl A H0 n0 s0 ad0 md FT FK EL cs pc L S h := by
  intro ad H locs ls hSt hL hS hl
  exact lv_sipush hx hb hd he (k ad H locs ls hSt hL (zNS_c hv hS) hl)
theorem zs_lconst {p : Program} {l : Launch} {e : Env} {R : Room} {s : State} {m : MethodId} {args : Array Value} {below : List Frame} {meth : Method} {c : Code} {Q : State → Prop} {D : va_G} {cl : List vw_C} {A : Nat → Prop} {H0 : Heap} {n0 s0 : Nat} {ad0 : Nat → Nat} {md : Bool} {FT : Nat → List Nat} {FK : Nat → Nat → Nat × Nat × Int} {EL : Nat → Nat × Nat} {cs : Nat → ClassId} {cc : ByteArray} {pc : Nat} {L : zL} {S : List zV} {h : zH} (hx : p.tables.exec = Jvm.exec) (hb : c.code = cc) {i : Fin 2} {v : Int} (hd : decode cc pc = .ok (.lconst i, 1)) (hv : zI64 v) (he : Int64.ofNat (i : Nat) = Int64.ofInt v) (k : zAW p l e R s m args below meth c Q D cl A H0 n0 s0 ad0 md FT FK EL cs (pc + 1) L (.inr (.inl v) :: S) h) : zAW p l e R s m args below meth c Q D cl A H0 n0 s0 ad0 md FT FK EL cs pc L S h := by
  intro ad H locs ls hSt hL hS hl
  exact lv_lconst hx hb hd he (k ad H locs ls hSt hL (zNS_c hv hS) hl)
theorem zs_ldc {p : Program} {l : Launch} {e : Env} {R : Room} {s : State} {m : MethodId} {args : Array Value} {below : List Frame} {meth : Method} {c : Code} {Q : State → Prop} {D : va_G} {cl : List vw_C} {A : Nat → Prop} {H0 : Heap} {n0 s0 : Nat} {ad0 : Nat → Nat} {md : Bool} {FT : Nat → List Nat} {FK : Nat → Nat → Nat × Nat × Int} {EL : Nat → Nat × Nat} {cs : Nat → ClassId} {cc : ByteArray} {pc : Nat} {L : zL} {S : List zV} {h : zH} (hx : p.tables.exec = Jvm.exec) (hb : c.code = cc) {own : String} {idx : Nat} {v : Int} (hown : s.vm.findClass own = some m.cls) (hc : (Jvm.Cond.constant own idx (Int32.ofInt v)).before args s = true) (hd : decode cc pc = .ok (.ldc idx, 2)) (hv : zI32 v) (k : zAW p l e R s m args below meth c Q D cl A H0 n0 s0 ad0 md FT FK EL cs (pc + 2) L (.inl v :: S) h) : zAW p l e R s m args below meth c Q D cl A H0 n0 s0 ad0 md FT FK EL cs pc L S h := by
  intro ad H locs ls hSt hL hS hl
  exact lv_ldc hx hb hown hc hd (k ad H locs ls hSt hL (zNS_c hv hS) hl)
theorem zs_ldc_w {p : Program} {l : Launch} {e : Env} {R : Room} {s : State} {m : MethodId} {args : Array Value} {below : List Frame} {meth : Method} {c : Code} {Q : State → Prop} {D : va_G} {cl : List vw_C} {A : Nat → Prop} {H0 : Heap} {n0 s0 : Nat} {ad0 : Nat → Nat} {md : Bool} {FT : Nat → List Nat} {FK : Nat → Nat → Nat × Nat × Int} {EL : Nat → Nat × Nat} {cs : Nat → ClassId} {cc : ByteArray} {pc : Nat} {L : zL} {S : List zV} {h : zH} (hx : p.tables.exec = Jvm.exec) (hb : c.code = cc) {own : String} {idx : Nat} {v : Int} (hown : s.vm.findClass own = some m.cls) (hc : (Jvm.Cond.constant own idx (Int32.ofInt v)).before args s = true) (hd : decode cc pc = .ok (.ldc_w idx, 3)) (hv : zI32 v) (k : zAW p l e R s m args below meth c Q D cl A H0 n0 s0 ad0 md FT FK EL cs (pc + 3) L (.inl v :: S) h) : zAW p l e R s m args below meth c Q D cl A H0 n0 s0 ad0 md FT FK EL cs pc L S h := by
  intro ad H locs ls hSt hL hS hl
  exact lv_ldcw hx hb hown hc hd (k ad H locs ls hSt hL (zNS_c hv hS) hl)
theorem zs_ldc2_w {p : Program} {l : Launch} {e : Env} {R : Room} {s : State} {m : MethodId} {args : Array Value} {below : List Frame} {meth : Method} {c : Code} {Q : State → Prop} {D : va_G} {cl : List vw_C} {A : Nat → Prop} {H0 : Heap} {n0 s0 : Nat} {ad0 : Nat → Nat} {md : Bool} {FT : Nat → List Nat} {FK : Nat → Nat → Nat × Nat × Int} {EL : Nat → Nat × Nat} {cs : Nat → ClassId} {cc : ByteArray} {pc : Nat} {L : zL} {S : List zV} {h : zH} (hx : p.tables.exec = Jvm.exec) (hb : c.code = cc) {own : String} {idx : Nat} {v : Int} (hown : s.vm.findClass own = some m.cls) (hc : (Jvm.Cond.constantLong own idx (Int64.ofInt v)).before args s = true) (hd : decode cc pc = .ok (.ldc2_w idx, 3)) (hv : zI64 v) (k : zAW p l e R s m args below meth c Q D cl A H0 n0 s0 ad0 md FT FK EL cs (pc + 3) L (.inr (.inl v) :: S) h) : zAW p l e R s m args below meth c Q D cl A H0 n0 s0 ad0 md FT FK EL cs pc L S h := by
  intro ad H locs ls hSt hL hS hl
  exact lv_ldc2 hx hb hown hc hd (k ad H locs ls hSt hL (zNS_c hv hS) hl)
theorem zs_iload_n {p : Program} {l : Launch} {e : Env} {R : Room} {s : State} {m : MethodId} {args : Array Value} {below : List Frame} {meth : Method} {c : Code} {Q : State → Prop} {D : va_G} {cl : List vw_C} {A : Nat → Prop} {H0 : Heap} {n0 s0 : Nat} {ad0 : Nat → Nat} {md : Bool} {FT : Nat → List Nat} {FK : Nat → Nat → Nat × Nat × Int} {EL : Nat → Nat × Nat} {cs : Nat → ClassId} {cc : ByteArray} {pc : Nat} {L : zL} {S : List zV} {h : zH} (hx : p.tables.exec = Jvm.exec) (hb : c.code = cc) {i : Fin 4} {a : Int} (hd : decode cc pc = .ok (.iload_n i, 1)) (hv : L.getD i none = some (.inl a)) (k : zAW p l e R s m args below meth c Q D cl A H0 n0 s0 ad0 md FT FK EL cs (pc + 1) L (.inl a :: S) h) : zAW p l e R s m args below meth c Q D cl A H0 n0 s0 ad0 md FT FK EL cs pc L S h := by
  intro ad H locs ls hSt hL hS hl
  exact lv_iload_n hx hb hd rfl (zLs_at hl hv) (k ad H locs ls hSt hL (zNS_c (hL _ _ hv) hS) hl)
theorem zs_iload {p : Program} {l : Launch} {e : Env} {R : Room} {s : State} {m : MethodId} {args : Array Value} {below : List Frame} {meth : Method} {c : Code} {Q : State → Prop} {D : va_G} {cl : List vw_C} {A : Nat → Prop} {H0 : Heap} {n0 s0 : Nat} {ad0 : Nat → Nat} {md : Bool} {FT : Nat → List Nat} {FK : Nat → Nat → Nat × Nat × Int} {EL : Nat → Nat × Nat} {cs : Nat → ClassId} {cc : ByteArray} {pc : Nat} {L : zL} {S : List zV} {h : zH} (hx : p.tables.exec = Jvm.exec) (hb : c.code = cc) {i : Nat} {a : Int} (hd : decode cc pc = .ok (.iload i, 2)) (hv : L.getD i none = some (.inl a)) (k : zAW p l e R s m args below meth c Q D cl A H0 n0 s0 ad0 md FT FK EL cs (pc + 2) L (.inl a :: S) h) : zAW p l e R s m args below meth c Q D cl A H0 n0 s0 ad0 md FT FK EL cs pc L S h := by
  intro ad H locs ls hSt hL hS hl
  exact lv_iload hx hb hd (zLs_at hl hv) (k ad H locs ls hSt hL (zNS_c (hL _ _ hv) hS) hl)
theorem zs_istore_n {p : Program} {l : Launch} {e : Env} {R : Room} {s : State} {m : MethodId} {args : Array Value} {below : List Frame} {meth : Method} {c : Code} {Q : State → Prop} {D : va_G} {cl : List vw_C} {A : Nat → Prop} {H0 : Heap} {n0 s0 : Nat} {ad0 : Nat → Nat} {md : Bool} {FT : Nat → List Nat} {FK : Nat → Nat → Nat × Nat × Int} {EL : Nat → Nat × Nat} {cs : Nat → ClassId} {cc : ByteArray} {pc : Nat} {L : zL} {S : List zV} {h : zH} (hx : p.tables.exec = Jvm.exec) (hb : c.code = cc) {i : Fin 4} {a : Int} (hd : decode cc pc = .ok (.istore_n i, 1)) (hn : (i : Nat) < L.length) (k : zAW p l e R s m args below meth c Q D cl A H0 n0 s0 ad0 md FT FK EL cs (pc + 1) (zst1 L i (.inl a)) S h) : zAW p l e R s m args below meth c Q D cl A H0 n0 s0 ad0 md FT FK EL cs pc L (.inl a :: S) h := by
  intro ad H locs ls hSt hL hS hl
  exact lv_istore_n hx hb hd rfl hl hn rfl (fun ls2 hl2 => k ad H locs ls2 hSt (zNL_st1 hL (zNS_h hS)) (zNS_t hS) (zLs_st1 hl2))
theorem zs_istore {p : Program} {l : Launch} {e : Env} {R : Room} {s : State} {m : MethodId} {args : Array Value} {below : List Frame} {meth : Method} {c : Code} {Q : State → Prop} {D : va_G} {cl : List vw_C} {A : Nat → Prop} {H0 : Heap} {n0 s0 : Nat} {ad0 : Nat → Nat} {md : Bool} {FT : Nat → List Nat} {FK : Nat → Nat → Nat × Nat × Int} {EL : Nat → Nat × Nat} {cs : Nat → ClassId} {cc : ByteArray} {pc : Nat} {L : zL} {S : List zV} {h : zH} (hx : p.tables.exec = Jvm.exec) (hb : c.code = cc) {i : Nat} {a : Int} (hd : decode cc pc = .ok (.istore i, 2)) (hn : (i : Nat) < L.length) (k : zAW p l e R s m args below meth c Q D cl A H0 n0 s0 ad0 md FT FK EL cs (pc + 2) (zst1 L i (.inl a)) S h) : zAW p l e R s m args below meth c Q D cl A H0 n0 s0 ad0 md FT FK EL cs pc L (.inl a :: S) h := by
  intro ad H locs ls hSt hL hS hl
  exact lv_istore hx hb hd hl hn rfl (fun ls2 hl2 => k ad H locs ls2 hSt (zNL_st1 hL (zNS_h hS)) (zNS_t hS) (zLs_st1 hl2))
theorem zs_lload_n {p : Program} {l : Launch} {e : Env} {R : Room} {s : State} {m : MethodId} {args : Array Value} {below : List Frame} {meth : Method} {c : Code} {Q : State → Prop} {D : va_G} {cl : List vw_C} {A : Nat → Prop} {H0 : Heap} {n0 s0 : Nat} {ad0 : Nat → Nat} {md : Bool} {FT : Nat → List Nat} {FK : Nat → Nat → Nat × Nat × Int} {EL : Nat → Nat × Nat} {cs : Nat → ClassId} {cc : ByteArray} {pc : Nat} {L : zL} {S : List zV} {h : zH} (hx : p.tables.exec = Jvm.exec) (hb : c.code = cc) {i : Fin 4} {a : Int} (hd : decode cc pc = .ok (.lload_n i, 1)) (hv : L.getD i none = some (.inr (.inl a))) (k : zAW p l e R s m args below meth c Q D cl A H0 n0 s0 ad0 md FT FK EL cs (pc + 1) L (.inr (.inl a) :: S) h) : zAW p l e R s m args below meth c Q D cl A H0 n0 s0 ad0 md FT FK EL cs pc L S h := by
  intro ad H locs ls hSt hL hS hl
  exact lv_lload_n hx hb hd rfl (zLs_at hl hv) (k ad H locs ls hSt hL (zNS_c (hL _ _ hv) hS) hl)
theorem zs_lload {p : Program} {l : Launch} {e : Env} {R : Room} {s : State} {m : MethodId} {args : Array Value} {below : List Frame} {meth : Method} {c : Code} {Q : State → Prop} {D : va_G} {cl : List vw_C} {A : Nat → Prop} {H0 : Heap} {n0 s0 : Nat} {ad0 : Nat → Nat} {md : Bool} {FT : Nat → List Nat} {FK : Nat → Nat → Nat × Nat × Int} {EL : Nat → Nat × Nat} {cs : Nat → ClassId} {cc : ByteArray} {pc : Nat} {L : zL} {S : List zV} {h : zH} (hx : p.tables.exec = Jvm.exec) (hb : c.code = cc) {i : Nat} {a : Int} (hd : decode cc pc = .ok (.lload i, 2)) (hv : L.getD i none = some (.inr (.inl a))) (k : zAW p l e R s m args below meth c Q D cl A H0 n0 s0 ad0 md FT FK EL cs (pc + 2) L (.inr (.inl a) :: S) h) : zAW p l e R s m args below meth c Q D cl A H0 n0 s0 ad0 md FT FK EL cs pc L S h := by
  intro ad H locs ls hSt hL hS hl
  exact lv_lload hx hb hd (zLs_at hl hv) (k ad H locs ls hSt hL (zNS_c (hL _ _ hv) hS) hl)
theorem zs_lstore_n {p : Program} {l : Launch} {e : Env} {R : Room} {s : State} {m : MethodId} {args : Array Value} {below : List Frame} {meth : Method} {c : Code} {Q : State → Prop} {D : va_G} {cl : List vw_C} {A : Nat → Prop} {H0 : Heap} {n0 s0 : Nat} {ad0 : Nat → Nat} {md : Bool} {FT : Nat → List Nat} {FK : Nat → Nat → Nat × Nat × Int} {EL : Nat → Nat × Nat} {cs : Nat → ClassId} {cc : ByteArray} {pc : Nat} {L : zL} {S : List zV} {h : zH} (hx : p.tables.exec = Jvm.exec) (hb : c.code = cc) {i : Fin 4} {a : Int} (hd : decode cc pc = .ok (.lstore_n i, 1)) (hn : (i : Nat) + 1 < L.length) (k : zAW p l e R s m args below meth c Q D cl A H0 n0 s0 ad0 md FT FK EL cs (pc + 1) (zst2 L i (.inr (.inl a))) S h) : zAW p l e R s m args below meth c Q D cl A H0 n0 s0 ad0 md FT FK EL cs pc L (.inr (.inl a) :: S) h := by
  intro ad H locs ls hSt hL hS hl
  exact lv_lstore_n hx hb hd rfl hl hn rfl (fun ls2 hl2 => k ad H locs ls2 hSt (zNL_st2 hL (zNS_h hS)) (zNS_t hS) (zLs_st2 hl2))
theorem zs_lstore {p : Program} {l : Launch} {e : Env} {R : Room} {s : State} {m : MethodId} {args : Array Value} {below : List Frame} {meth : Method} {c : Code} {Q : State → Prop} {D : va_G} {cl : List vw_C} {A : Nat → Prop} {H0 : Heap} {n0 s0 : Nat} {ad0 : Nat → Nat} {md : Bool} {FT : Nat → List Nat} {FK : Nat → Nat → Nat × Nat × Int} {EL : Nat → Nat × Nat} {cs : Nat → ClassId} {cc : ByteArray} {pc : Nat} {L : zL} {S : List zV} {h : zH} (hx : p.tables.exec = Jvm.exec) (hb : c.code = cc) {i : Nat} {a : Int} (hd : decode cc pc = .ok (.lstore i, 2)) (hn : (i : Nat) + 1 < L.length) (k : zAW p l e R s m args below meth c Q D cl A H0 n0 s0 ad0 md FT FK EL cs (pc + 2) (zst2 L i (.inr (.inl a))) S h) : zAW p l e R s m args below meth c Q D cl A H0 n0 s0 ad0 md FT FK EL cs pc L (.inr (.inl a) :: S) h := by
  intro ad H locs ls hSt hL hS hl
  exact lv_lstore hx hb hd hl hn rfl (fun ls2 hl2 => k ad H locs ls2 hSt (zNL_st2 hL (zNS_h hS)) (zNS_t hS) (zLs_st2 hl2))
theorem zs_aload_n {p : Program} {l : Launch} {e : Env} {R : Room} {s : State} {m : MethodId} {args : Array Value} {below : List Frame} {meth : Method} {c : Code} {Q : State → Prop} {D : va_G} {cl : List vw_C} {A : Nat → Prop} {H0 : Heap} {n0 s0 : Nat} {ad0 : Nat → Nat} {md : Bool} {FT : Nat → List Nat} {FK : Nat → Nat → Nat × Nat × Int} {EL : Nat → Nat × Nat} {cs : Nat → ClassId} {cc : ByteArray} {pc : Nat} {L : zL} {S : List zV} {h : zH} (hx : p.tables.exec = Jvm.exec) (hb : c.code = cc) {i : Fin 4} {q : Int × Nat × Nat} (hd : decode cc pc = .ok (.aload_n i, 1)) (hv : L.getD i none = some (.inr (.inr q))) (k : zAW p l e R s m args below meth c Q D cl A H0 n0 s0 ad0 md FT FK EL cs (pc + 1) L (.inr (.inr q) :: S) h) : zAW p l e R s m args below meth c Q D cl A H0 n0 s0 ad0 md FT FK EL cs pc L S h := by
  intro ad H locs ls hSt hL hS hl
  have h1 := zLs_at hl hv
  have h2 := k ad H locs ls hSt hL (zNS_c (hL _ _ hv) hS) hl
  have ee : zc ad (.inr (.inr q)) = va_rf (zro ad q.1) := rfl
  have h2 : W p l e R s m args below meth c H locs (zn h - n0) (zsl h - s0) Q (F0 m (pc + 1) ls (va_rf (zro ad q.1) :: S.map (zc ad))) := h2
  rw [ee] at h1
  cases hz : zro ad q.1 with
  | none => rw [hz] at h1 h2; exact lv_aload_nN hx hb hd rfl h1 h2
  | some x => rw [hz] at h1 h2; exact lv_aload_n hx hb hd rfl h1 h2
theorem zs_astore_n {p : Program} {l : Launch} {e : Env} {R : Room} {s : State} {m : MethodId} {args : Array Value} {below : List Frame} {meth : Method} {c : Code} {Q : State → Prop} {D : va_G} {cl : List vw_C} {A : Nat → Prop} {H0 : Heap} {n0 s0 : Nat} {ad0 : Nat → Nat} {md : Bool} {FT : Nat → List Nat} {FK : Nat → Nat → Nat × Nat × Int} {EL : Nat → Nat × Nat} {cs : Nat → ClassId} {cc : ByteArray} {pc : Nat} {L : zL} {S : List zV} {h : zH} (hx : p.tables.exec = Jvm.exec) (hb : c.code = cc) {i : Fin 4} {q : Int × Nat × Nat} (hd : decode cc pc = .ok (.astore_n i, 1)) (hn : (i : Nat) < L.length) (k : zAW p l e R s m args below meth c Q D cl A H0 n0 s0 ad0 md FT FK EL cs (pc + 1) (zst1 L i (.inr (.inr q))) S h) : zAW p l e R s m args below meth c Q D cl A H0 n0 s0 ad0 md FT FK EL cs pc L (.inr (.inr q) :: S) h := by
  intro ad H locs ls hSt hL hS hl
  have kk : ∀ ls2, zLs ad ls2 (zst1 L i (.inr (.inr q))) → W p l e R s m args below meth c H locs (zn h - n0) (zsl h - s0) Q (F0 m (pc + 1) ls2 (S.map (zc ad))) := fun ls2 hl2 => k ad H locs ls2 hSt (zNL_st1 hL (zNS_h hS)) (zNS_t hS) hl2
  have ee : zc ad (.inr (.inr q)) = va_rf (zro ad q.1) := rfl
  show W p l e R s m args below meth c H locs (zn h - n0) (zsl h - s0) Q (F0 m pc ls (va_rf (zro ad q.1) :: S.map (zc ad)))
  cases hz : zro ad q.1 with
  | none => exact lv_astore_nN hx hb hd rfl hl hn rfl (fun ls2 hl2 => kk ls2 (zLs_st1 (by rw [ee, hz]; exact hl2)))
  | some x => exact lv_astore_n hx hb hd rfl hl hn rfl (fun ls2 hl2 => kk ls2 (zLs_st1 (by rw [ee, hz]; exact hl2)))
theorem zs_aload {p : Program} {l : Launch} {e : Env} {R : Room} {s : State} {m : MethodId} {args : Array Value} {below : List Frame} {meth : Method} {c : Code} {Q : State → Prop} {D : va_G} {cl : List vw_C} {A : Nat → Prop} {H0 : Heap} {n0 s0 : Nat} {ad0 : Nat → Nat} {md : Bool} {FT : Nat → List Nat} {FK : Nat → Nat → Nat × Nat × Int} {EL : Nat → Nat × Nat} {cs : Nat → ClassId} {cc : ByteArray} {pc : Nat} {L : zL} {S : List zV} {h : zH} (hx : p.tables.exec = Jvm.exec) (hb : c.code = cc) {i : Nat} {q : Int × Nat × Nat} (hd : decode cc pc = .ok (.aload i, 2)) (hv : L.getD i none = some (.inr (.inr q))) (k : zAW p l e R s m args below meth c Q D cl A H0 n0 s0 ad0 md FT FK EL cs (pc + 2) L (.inr (.inr q) :: S) h) : zAW p l e R s m args below meth c Q D cl A H0 n0 s0 ad0 md FT FK EL cs pc L S h := by
  intro ad H locs ls hSt hL hS hl
  have h1 := zLs_at hl hv
  have h2 := k ad H locs ls hSt hL (zNS_c (hL _ _ hv) hS) hl
  have ee : zc ad (.inr (.inr q)) = va_rf (zro ad q.1) := rfl
  have h2 : W p l e R s m args below meth c H locs (zn h - n0) (zsl h - s0) Q (F0 m (pc + 2) ls (va_rf (zro ad q.1) :: S.map (zc ad))) := h2
  rw [ee] at h1
  cases hz : zro ad q.1 with
  | none => rw [hz] at h1 h2; exact lv_aloadN hx hb hd h1 h2
  | some x => rw [hz] at h1 h2; exact lv_aload hx hb hd h1 h2
theorem zs_astore {p : Program} {l : Launch} {e : Env} {R : Room} {s : State} {m : MethodId} {args : Array Value} {below : List Frame} {meth : Method} {c : Code} {Q : State → Prop} {D : va_G} {cl : List vw_C} {A : Nat → Prop} {H0 : Heap} {n0 s0 : Nat} {ad0 : Nat → Nat} {md : Bool} {FT : Nat → List Nat} {FK : Nat → Nat → Nat × Nat × Int} {EL : Nat → Nat × Nat} {cs : Nat → ClassId} {cc : ByteArray} {pc : Nat} {L : zL} {S : List zV} {h : zH} (hx : p.tables.exec = Jvm.exec) (hb : c.code = cc) {i : Nat} {q : Int × Nat × Nat} (hd : decode cc pc = .ok (.astore i, 2)) (hn : (i : Nat) < L.length) (k : zAW p l e R s m args below meth c Q D cl A H0 n0 s0 ad0 md FT FK EL cs (pc + 2) (zst1 L i (.inr (.inr q))) S h) : zAW p l e R s m args below meth c Q D cl A H0 n0 s0 ad0 md FT FK EL cs pc L (.inr (.inr q) :: S) h := by
  intro ad H locs ls hSt hL hS hl
  have kk : ∀ ls2, zLs ad ls2 (zst1 L i (.inr (.inr q))) → W p l e R s m args below meth c H locs (zn h - n0) (zsl h - s0) Q (F0 m (pc + 2) ls2 (S.map (zc ad))) := fun ls2 hl2 => k ad H locs ls2 hSt (zNL_st1 hL (zNS_h hS)) (zNS_t hS) hl2
  have ee : zc ad (.inr (.inr q)) = va_rf (zro ad q.1) := rfl
  show W p l e R s m args below meth c H locs (zn h - n0) (zsl h - s0) Q (F0 m pc ls (va_rf (zro ad q.1) :: S.map (zc ad)))
  cases hz : zro ad q.1 with
  | none => exact lv_astoreN hx hb hd hl hn rfl (fun ls2 hl2 => kk ls2 (zLs_st1 (by rw [ee, hz]; exact hl2)))
  | some x => exact lv_astore hx hb hd hl hn rfl (fun ls2 hl2 => kk ls2 (zLs_st1 (by rw [ee, hz]; exact hl2)))
theorem zs_iinc {p : Program} {l : Launch} {e : Env} {R : Room} {s : State} {m : MethodId} {args : Array Value} {below : List Frame} {meth : Method} {c : Code} {Q : State → Prop} {D : va_G} {cl : List vw_C} {A : Nat → Prop} {H0 : Heap} {n0 s0 : Nat} {ad0 : Nat → Nat} {md : Bool} {FT : Nat → List Nat} {FK : Nat → Nat → Nat × Nat × Int} {EL : Nat → Nat × Nat} {cs : Nat → ClassId} {cc : ByteArray} {pc : Nat} {L : zL} {S : List zV} {h : zH} (hx : p.tables.exec = Jvm.exec) (hb : c.code = cc) {i : Nat} {a n : Int} (hd : decode cc pc = .ok (.iinc i n, 3)) (hv : L.getD i none = some (.inl a)) (hn : i < L.length) (k : zAW p l e R s m args below meth c Q D cl A H0 n0 s0 ad0 md FT FK EL cs (pc + 3) (zst1 L i (.inl (w32 (a + n)))) S h) : zAW p l e R s m args below meth c Q D cl A H0 n0 s0 ad0 md FT FK EL cs pc L S h := by
  intro ad H locs ls hSt hL hS hl
  obtain ⟨j, hj⟩ := List.mem_iff_getElem?.mp (zla_mem (ad := ad) (q := (i, zc ad (.inl a))).mpr ⟨_, hv, rfl⟩)
  refine lv_iinc (v := Int32.ofInt (w32 (a + n))) hx hb hd hl hj (by rw [zi_w, Int32.ofInt_add]) hn rfl (fun ls2 hl2 => ?_)
  exact k ad H locs ls2 hSt (zNL_st1 hL (zw32_in _)) hS (zLs_st1 hl2)
theorem zs_iadd {p : Program} {l : Launch} {e : Env} {R : Room} {s : State} {m : MethodId} {args : Array Value} {below : List Frame} {meth : Method} {c : Code} {Q : State → Prop} {D : va_G} {cl : List vw_C} {A : Nat → Prop} {H0 : Heap} {n0 s0 : Nat} {ad0 : Nat → Nat} {md : Bool} {FT : Nat → List Nat} {FK : Nat → Nat → Nat × Nat × Int} {EL : Nat → Nat × Nat} {cs : Nat → ClassId} {cc : ByteArray} {pc : Nat} {L : zL} {S : List zV} {h : zH} (hx : p.tables.exec = Jvm.exec) (hb : c.code = cc) {a b : Int} (hd : decode cc pc = .ok (.iadd, 1)) (k : zAW p l e R s m args below meth c Q D cl A H0 n0 s0 ad0 md FT FK EL cs (pc + 1) L (.inl (w32 (a + b)) :: S) h) : zAW p l e R s m args below meth c Q D cl A H0 n0 s0 ad0 md FT FK EL cs pc L (.inl b :: .inl a :: S) h := by
  intro ad H locs ls hSt hL hS hl
  refine lv_iadd hx hb hd ?_
  rw [← zi_add]
  exact k ad H locs ls hSt hL (zNS_c (zw32_in _) (zNS_t (zNS_t hS))) hl
theorem zs_isub {p : Program} {l : Launch} {e : Env} {R : Room} {s : State} {m : MethodId} {args : Array Value} {below : List Frame} {meth : Method} {c : Code} {Q : State → Prop} {D : va_G} {cl : List vw_C} {A : Nat → Prop} {H0 : Heap} {n0 s0 : Nat} {ad0 : Nat → Nat} {md : Bool} {FT : Nat → List Nat} {FK : Nat → Nat → Nat × Nat × Int} {EL : Nat → Nat × Nat} {cs : Nat → ClassId} {cc : ByteArray} {pc : Nat} {L : zL} {S : List zV} {h : zH} (hx : p.tables.exec = Jvm.exec) (hb : c.code = cc) {a b : Int} (hd : decode cc pc = .ok (.isub, 1)) (k : zAW p l e R s m args below meth c Q D cl A H0 n0 s0 ad0 md FT FK EL cs (pc + 1) L (.inl (w32 (a - b)) :: S) h) : zAW p l e R s m args below meth c Q D cl A H0 n0 s0 ad0 md FT FK EL cs pc L (.inl b :: .inl a :: S) h := by
  intro ad H locs ls hSt hL hS hl
  refine lv_isub hx hb hd ?_
  rw [← zi_sub]
  exact k ad H locs ls hSt hL (zNS_c (zw32_in _) (zNS_t (zNS_t hS))) hl
theorem zs_imul {p : Program} {l : Launch} {e : Env} {R : Room} {s : State} {m : MethodId} {args : Array Value} {below : List Frame} {meth : Method} {c : Code} {Q : State → Prop} {D : va_G} {cl : List vw_C} {A : Nat → Prop} {H0 : Heap} {n0 s0 : Nat} {ad0 : Nat → Nat} {md : Bool} {FT : Nat → List Nat} {FK : Nat → Nat → Nat × Nat × Int} {EL : Nat → Nat × Nat} {cs : Nat → ClassId} {cc : ByteArray} {pc : Nat} {L : zL} {S : List zV} {h : zH} (hx : p.tables.exec = Jvm.exec) (hb : c.code = cc) {a b : Int} (hd : decode cc pc = .ok (.imul, 1)) (k : zAW p l e R s m args below meth c Q D cl A H0 n0 s0 ad0 md FT FK EL cs (pc + 1) L (.inl (w32 (a * b)) :: S) h) : zAW p l e R s m args below meth c Q D cl A H0 n0 s0 ad0 md FT FK EL cs pc L (.inl b :: .inl a :: S) h := by
  intro ad H locs ls hSt hL hS hl
  refine lv_imul hx hb hd ?_
  rw [← zi_mul]
  exact k ad H locs ls hSt hL (zNS_c (zw32_in _) (zNS_t (zNS_t hS))) hl
theorem zs_ladd {p : Program} {l : Launch} {e : Env} {R : Room} {s : State} {m : MethodId} {args : Array Value} {below : List Frame} {meth : Method} {c : Code} {Q : State → Prop} {D : va_G} {cl : List vw_C} {A : Nat → Prop} {H0 : Heap} {n0 s0 : Nat} {ad0 : Nat → Nat} {md : Bool} {FT : Nat → List Nat} {FK : Nat → Nat → Nat × Nat × Int} {EL : Nat → Nat × Nat} {cs : Nat → ClassId} {cc : ByteArray} {pc : Nat} {L : zL} {S : List zV} {h : zH} (hx : p.tables.exec = Jvm.exec) (hb : c.code = cc) {a b : Int} (hd : decode cc pc = .ok (.ladd, 1)) (k : zAW p l e R s m args below meth c Q D cl A H0 n0 s0 ad0 md FT FK EL cs (pc + 1) L (.inr (.inl (w64 (a + b))) :: S) h) : zAW p l e R s m args below meth c Q D cl A H0 n0 s0 ad0 md FT FK EL cs pc L (.inr (.inl b) :: .inr (.inl a) :: S) h := by
  intro ad H locs ls hSt hL hS hl
  refine lv_ladd hx hb hd ?_
  rw [← zl_add]
  exact k ad H locs ls hSt hL (zNS_c (zw64_in _) (zNS_t (zNS_t hS))) hl
theorem zs_lsub {p : Program} {l : Launch} {e : Env} {R : Room} {s : State} {m : MethodId} {args : Array Value} {below : List Frame} {meth : Method} {c : Code} {Q : State → Prop} {D : va_G} {cl : List vw_C} {A : Nat → Prop} {H0 : Heap} {n0 s0 : Nat} {ad0 : Nat → Nat} {md : Bool} {FT : Nat → List Nat} {FK : Nat → Nat → Nat × Nat × Int} {EL : Nat → Nat × Nat} {cs : Nat → ClassId} {cc : ByteArray} {pc : Nat} {L : zL} {S : List zV} {h : zH} (hx : p.tables.exec = Jvm.exec) (hb : c.code = cc) {a b : Int} (hd : decode cc pc = .ok (.lsub, 1)) (k : zAW p l e R s m args below meth c Q D cl A H0 n0 s0 ad0 md FT FK EL cs (pc + 1) L (.inr (.inl (w64 (a - b))) :: S) h) : zAW p l e R s m args below meth c Q D cl A H0 n0 s0 ad0 md FT FK EL cs pc L (.inr (.inl b) :: .inr (.inl a) :: S) h := by
  intro ad H locs ls hSt hL hS hl
  refine lv_lsub hx hb hd ?_
  rw [← zl_sub]
  exact k ad H locs ls hSt hL (zNS_c (zw64_in _) (zNS_t (zNS_t hS))) hl
theorem zs_lmul {p : Program} {l : Launch} {e : Env} {R : Room} {s : State} {m : MethodId} {args : Array Value} {below : List Frame} {meth : Method} {c : Code} {Q : State → Prop} {D : va_G} {cl : List vw_C} {A : Nat → Prop} {H0 : Heap} {n0 s0 : Nat} {ad0 : Nat → Nat} {md : Bool} {FT : Nat → List Nat} {FK : Nat → Nat → Nat × Nat × Int} {EL : Nat → Nat × Nat} {cs : Nat → ClassId} {cc : ByteArray} {pc : Nat} {L : zL} {S : List zV} {h : zH} (hx : p.tables.exec = Jvm.exec) (hb : c.code = cc) {a b : Int} (hd : decode cc pc = .ok (.lmul, 1)) (k : zAW p l e R s m args below meth c Q D cl A H0 n0 s0 ad0 md FT FK EL cs (pc + 1) L (.inr (.inl (w64 (a * b))) :: S) h) : zAW p l e R s m args below meth c Q D cl A H0 n0 s0 ad0 md FT FK EL cs pc L (.inr (.inl b) :: .inr (.inl a) :: S) h := by
  intro ad H locs ls hSt hL hS hl
  refine lv_lmul hx hb hd ?_
  rw [← zl_mul]
  exact k ad H locs ls hSt hL (zNS_c (zw64_in _) (zNS_t (zNS_t hS))) hl
theorem zs_idiv {p : Program} {l : Launch} {e : Env} {R : Room} {s : State} {m : MethodId} {args : Array Value} {below : List Frame} {meth : Method} {c : Code} {Q : State → Prop} {D : va_G} {cl : List vw_C} {A : Nat → Prop} {H0 : Heap} {n0 s0 : Nat} {ad0 : Nat → Nat} {md : Bool} {FT : Nat → List Nat} {FK : Nat → Nat → Nat × Nat × Int} {EL : Nat → Nat × Nat} {cs : Nat → ClassId} {cc : ByteArray} {pc : Nat} {L : zL} {S : List zV} {h : zH} (hx : p.tables.exec = Jvm.exec) (hb : c.code = cc) {a b : Int} (hd : decode cc pc = .ok (.idiv, 1)) (hne : ¬ b = 0) (k : zAW p l e R s m args below meth c Q D cl A H0 n0 s0 ad0 md FT FK EL cs (pc + 1) L (.inl (w32 (a.tdiv b)) :: S) h) : zAW p l e R s m args below meth c Q D cl A H0 n0 s0 ad0 md FT FK EL cs pc L (.inl b :: .inl a :: S) h := by
  intro ad H locs ls hSt hL hS hl
  have hb1 : zI32 b := zNS_h hS
  have ha1 : zI32 a := zNS_h (zNS_t hS)
  refine lv_idiv hx hb hd (fun q => hne ((zi_eq hb1 z0_in).mp q)) ?_
  rw [← zi_div ha1 hb1]
  exact k ad H locs ls hSt hL (zNS_c (zw32_in _) (zNS_t (zNS_t hS))) hl
theorem zs_irem {p : Program} {l : Launch} {e : Env} {R : Room} {s : State} {m : MethodId} {args : Array Value} {below : List Frame} {meth : Method} {c : Code} {Q : State → Prop} {D : va_G} {cl : List vw_C} {A : Nat → Prop} {H0 : Heap} {n0 s0 : Nat} {ad0 : Nat → Nat} {md : Bool} {FT : Nat → List Nat} {FK : Nat → Nat → Nat × Nat × Int} {EL : Nat → Nat × Nat} {cs : Nat → ClassId} {cc : ByteArray} {pc : Nat} {L : zL} {S : List zV} {h : zH} (hx : p.tables.exec = Jvm.exec) (hb : c.code = cc) {a b : Int} (hd : decode cc pc = .ok (.irem, 1)) (hne : ¬ b = 0) (k : zAW p l e R s m args below meth c Q D cl A H0 n0 s0 ad0 md FT FK EL cs (pc + 1) L (.inl (a.tmod b) :: S) h) : zAW p l e R s m args below meth c Q D cl A H0 n0 s0 ad0 md FT FK EL cs pc L (.inl b :: .inl a :: S) h := by
  intro ad H locs ls hSt hL hS hl
  have hb1 : zI32 b := zNS_h hS
  have ha1 : zI32 a := zNS_h (zNS_t hS)
  refine lv_irem hx hb hd (fun q => hne ((zi_eq hb1 z0_in).mp q)) ?_
  rw [← zi_rem ha1 hb1]
  exact k ad H locs ls hSt hL (zNS_c (zI32_mod ha1 hb1) (zNS_t (zNS_t hS))) hl
theorem zs_ldiv {p : Program} {l : Launch} {e : Env} {R : Room} {s : State} {m : MethodId} {args : Array Value} {below : List Frame} {meth : Method} {c : Code} {Q : State → Prop} {D : va_G} {cl : List vw_C} {A : Nat → Prop} {H0 : Heap} {n0 s0 : Nat} {ad0 : Nat → Nat} {md : Bool} {FT : Nat → List Nat} {FK : Nat → Nat → Nat × Nat × Int} {EL : Nat → Nat × Nat} {cs : Nat → ClassId} {cc : ByteArray} {pc : Nat} {L : zL} {S : List zV} {h : zH} (hx : p.tables.exec = Jvm.exec) (hb : c.code = cc) {a b : Int} (hd : decode cc pc = .ok (.ldiv, 1)) (hne : ¬ b = 0) (k : zAW p l e R s m args below meth c Q D cl A H0 n0 s0 ad0 md FT FK EL cs (pc + 1) L (.inr (.inl (w64 (a.tdiv b))) :: S) h) : zAW p l e R s m args below meth c Q D cl A H0 n0 s0 ad0 md FT FK EL cs pc L (.inr (.inl b) :: .inr (.inl a) :: S) h := by
  intro ad H locs ls hSt hL hS hl
  have hb1 : zI64 b := zNS_h hS
  have ha1 : zI64 a := zNS_h (zNS_t hS)
  refine lv_ldiv hx hb hd (fun q => hne ((zl_eq hb1 (zI64_of z0_in)).mp q)) ?_
  rw [← zl_div ha1 hb1]
  exact k ad H locs ls hSt hL (zNS_c (zw64_in _) (zNS_t (zNS_t hS))) hl
theorem zs_lrem {p : Program} {l : Launch} {e : Env} {R : Room} {s : State} {m : MethodId} {args : Array Value} {below : List Frame} {meth : Method} {c : Code} {Q : State → Prop} {D : va_G} {cl : List vw_C} {A : Nat → Prop} {H0 : Heap} {n0 s0 : Nat} {ad0 : Nat → Nat} {md : Bool} {FT : Nat → List Nat} {FK : Nat → Nat → Nat × Nat × Int} {EL : Nat → Nat × Nat} {cs : Nat → ClassId} {cc : ByteArray} {pc : Nat} {L : zL} {S : List zV} {h : zH} (hx : p.tables.exec = Jvm.exec) (hb : c.code = cc) {a b : Int} (hd : decode cc pc = .ok (.lrem, 1)) (hne : ¬ b = 0) (k : zAW p l e R s m args below meth c Q D cl A H0 n0 s0 ad0 md FT FK EL cs (pc + 1) L (.inr (.inl (a.tmod b)) :: S) h) : zAW p l e R s m args below meth c Q D cl A H0 n0 s0 ad0 md FT FK EL cs pc L (.inr (.inl b) :: .inr (.inl a) :: S) h := by
  intro ad H locs ls hSt hL hS hl
  have hb1 : zI64 b := zNS_h hS
  have ha1 : zI64 a := zNS_h (zNS_t hS)
  refine lv_lrem hx hb hd (fun q => hne ((zl_eq hb1 (zI64_of z0_in)).mp q)) ?_
  rw [← zl_rem ha1 hb1]
  exact k ad H locs ls hSt hL (zNS_c (zI64_mod ha1 hb1) (zNS_t (zNS_t hS))) hl
theorem zs_iand {p : Program} {l : Launch} {e : Env} {R : Room} {s : State} {m : MethodId} {args : Array Value} {below : List Frame} {meth : Method} {c : Code} {Q : State → Prop} {D : va_G} {cl : List vw_C} {A : Nat → Prop} {H0 : Heap} {n0 s0 : Nat} {ad0 : Nat → Nat} {md : Bool} {FT : Nat → List Nat} {FK : Nat → Nat → Nat × Nat × Int} {EL : Nat → Nat × Nat} {cs : Nat → ClassId} {cc : ByteArray} {pc : Nat} {L : zL} {S : List zV} {h : zH} (hx : p.tables.exec = Jvm.exec) (hb : c.code = cc) {a b : Int} (hd : decode cc pc = .ok (.iand, 1)) (k : zAW p l e R s m args below meth c Q D cl A H0 n0 s0 ad0 md FT FK EL cs (pc + 1) L (.inl (zand a b) :: S) h) : zAW p l e R s m args below meth c Q D cl A H0 n0 s0 ad0 md FT FK EL cs pc L (.inl b :: .inl a :: S) h := by
  intro ad H locs ls hSt hL hS hl
  refine lv_iand hx hb hd ?_
  have k2 := k ad H locs ls hSt hL (zNS_c (v := .inl (zand a b)) (zI32_t _) (zNS_t (zNS_t hS))) hl
  have e : zc ad (.inl (zand a b)) = .int _ := congrArg Value.int (zoi _)
  rw [List.map_cons, e] at k2
  exact k2
theorem zs_ior {p : Program} {l : Launch} {e : Env} {R : Room} {s : State} {m : MethodId} {args : Array Value} {below : List Frame} {meth : Method} {c : Code} {Q : State → Prop} {D : va_G} {cl : List vw_C} {A : Nat → Prop} {H0 : Heap} {n0 s0 : Nat} {ad0 : Nat → Nat} {md : Bool} {FT : Nat → List Nat} {FK : Nat → Nat → Nat × Nat × Int} {EL : Nat → Nat × Nat} {cs : Nat → ClassId} {cc : ByteArray} {pc : Nat} {L : zL} {S : List zV} {h : zH} (hx : p.tables.exec = Jvm.exec) (hb : c.code = cc) {a b : Int} (hd : decode cc pc = .ok (.ior, 1)) (k : zAW p l e R s m args below meth c Q D cl A H0 n0 s0 ad0 md FT FK EL cs (pc + 1) L (.inl (zor a b) :: S) h) : zAW p l e R s m args below meth c Q D cl A H0 n0 s0 ad0 md FT FK EL cs pc L (.inl b :: .inl a :: S) h := by
  intro ad H locs ls hSt hL hS hl
  refine lv_ior hx hb hd ?_
  have k2 := k ad H locs ls hSt hL (zNS_c (v := .inl (zor a b)) (zI32_t _) (zNS_t (zNS_t hS))) hl
  have e : zc ad (.inl (zor a b)) = .int _ := congrArg Value.int (zoi _)
  rw [List.map_cons, e] at k2
  exact k2
theorem zs_ixor {p : Program} {l : Launch} {e : Env} {R : Room} {s : State} {m : MethodId} {args : Array Value} {below : List Frame} {meth : Method} {c : Code} {Q : State → Prop} {D : va_G} {cl : List vw_C} {A : Nat → Prop} {H0 : Heap} {n0 s0 : Nat} {ad0 : Nat → Nat} {md : Bool} {FT : Nat → List Nat} {FK : Nat → Nat → Nat × Nat × Int} {EL : Nat → Nat × Nat} {cs : Nat → ClassId} {cc : ByteArray} {pc : Nat} {L : zL} {S : List zV} {h : zH} (hx : p.tables.exec = Jvm.exec) (hb : c.code = cc) {a b : Int} (hd : decode cc pc = .ok (.ixor, 1)) (k : zAW p l e R s m args below meth c Q D cl A H0 n0 s0 ad0 md FT FK EL cs (pc + 1) L (.inl (zxor a b) :: S) h) : zAW p l e R s m args below meth c Q D cl A H0 n0 s0 ad0 md FT FK EL cs pc L (.inl b :: .inl a :: S) h := by
  intro ad H locs ls hSt hL hS hl
  refine lv_ixor hx hb hd ?_
  have k2 := k ad H locs ls hSt hL (zNS_c (v := .inl (zxor a b)) (zI32_t _) (zNS_t (zNS_t hS))) hl
  have e : zc ad (.inl (zxor a b)) = .int _ := congrArg Value.int (zoi _)
  rw [List.map_cons, e] at k2
  exact k2
theorem zs_ishl {p : Program} {l : Launch} {e : Env} {R : Room} {s : State} {m : MethodId} {args : Array Value} {below : List Frame} {meth : Method} {c : Code} {Q : State → Prop} {D : va_G} {cl : List vw_C} {A : Nat → Prop} {H0 : Heap} {n0 s0 : Nat} {ad0 : Nat → Nat} {md : Bool} {FT : Nat → List Nat} {FK : Nat → Nat → Nat × Nat × Int} {EL : Nat → Nat × Nat} {cs : Nat → ClassId} {cc : ByteArray} {pc : Nat} {L : zL} {S : List zV} {h : zH} (hx : p.tables.exec = Jvm.exec) (hb : c.code = cc) {a b : Int} (hd : decode cc pc = .ok (.ishl, 1)) (k : zAW p l e R s m args below meth c Q D cl A H0 n0 s0 ad0 md FT FK EL cs (pc + 1) L (.inl (zshl a b) :: S) h) : zAW p l e R s m args below meth c Q D cl A H0 n0 s0 ad0 md FT FK EL cs pc L (.inl b :: .inl a :: S) h := by
  intro ad H locs ls hSt hL hS hl
  refine lv_ishl hx hb hd ?_
  have k2 := k ad H locs ls hSt hL (zNS_c (v := .inl (zshl a b)) (zI32_t _) (zNS_t (zNS_t hS))) hl
  have e : zc ad (.inl (zshl a b)) = .int _ := congrArg Value.int (zoi _)
  rw [List.map_cons, e] at k2
  exact k2
theorem zs_ishr {p : Program} {l : Launch} {e : Env} {R : Room} {s : State} {m : MethodId} {args : Array Value} {below : List Frame} {meth : Method} {c : Code} {Q : State → Prop} {D : va_G} {cl : List vw_C} {A : Nat → Prop} {H0 : Heap} {n0 s0 : Nat} {ad0 : Nat → Nat} {md : Bool} {FT : Nat → List Nat} {FK : Nat → Nat → Nat × Nat × Int} {EL : Nat → Nat × Nat} {cs : Nat → ClassId} {cc : ByteArray} {pc : Nat} {L : zL} {S : List zV} {h : zH} (hx : p.tables.exec = Jvm.exec) (hb : c.code = cc) {a b : Int} (hd : decode cc pc = .ok (.ishr, 1)) (k : zAW p l e R s m args below meth c Q D cl A H0 n0 s0 ad0 md FT FK EL cs (pc + 1) L (.inl (zshr a b) :: S) h) : zAW p l e R s m args below meth c Q D cl A H0 n0 s0 ad0 md FT FK EL cs pc L (.inl b :: .inl a :: S) h := by
  intro ad H locs ls hSt hL hS hl
  refine lv_ishr hx hb hd ?_
  have k2 := k ad H locs ls hSt hL (zNS_c (v := .inl (zshr a b)) (zI32_t _) (zNS_t (zNS_t hS))) hl
  have e : zc ad (.inl (zshr a b)) = .int _ := congrArg Value.int (zoi _)
  rw [List.map_cons, e] at k2
  exact k2
theorem zs_iushr {p : Program} {l : Launch} {e : Env} {R : Room} {s : State} {m : MethodId} {args : Array Value} {below : List Frame} {meth : Method} {c : Code} {Q : State → Prop} {D : va_G} {cl : List vw_C} {A : Nat → Prop} {H0 : Heap} {n0 s0 : Nat} {ad0 : Nat → Nat} {md : Bool} {FT : Nat → List Nat} {FK : Nat → Nat → Nat × Nat × Int} {EL : Nat → Nat × Nat} {cs : Nat → ClassId} {cc : ByteArray} {pc : Nat} {L : zL} {S : List zV} {h : zH} (hx : p.tables.exec = Jvm.exec) (hb : c.code = cc) {a b : Int} (hd : decode cc pc = .ok (.iushr, 1)) (k : zAW p l e R s m args below meth c Q D cl A H0 n0 s0 ad0 md FT FK EL cs (pc + 1) L (.inl (zushr a b) :: S) h) : zAW p l e R s m args below meth c Q D cl A H0 n0 s0 ad0 md FT FK EL cs pc L (.inl b :: .inl a :: S) h := by
  intro ad H locs ls hSt hL hS hl
  exact lv_iushr hx hb hd (zoi _).symm (k ad H locs ls hSt hL (zNS_c (v := .inl (zushr a b)) (zI32_t _) (zNS_t (zNS_t hS))) hl)
theorem zs_land {p : Program} {l : Launch} {e : Env} {R : Room} {s : State} {m : MethodId} {args : Array Value} {below : List Frame} {meth : Method} {c : Code} {Q : State → Prop} {D : va_G} {cl : List vw_C} {A : Nat → Prop} {H0 : Heap} {n0 s0 : Nat} {ad0 : Nat → Nat} {md : Bool} {FT : Nat → List Nat} {FK : Nat → Nat → Nat × Nat × Int} {EL : Nat → Nat × Nat} {cs : Nat → ClassId} {cc : ByteArray} {pc : Nat} {L : zL} {S : List zV} {h : zH} (hx : p.tables.exec = Jvm.exec) (hb : c.code = cc) {a b : Int} (hd : decode cc pc = .ok (.land, 1)) (k : zAW p l e R s m args below meth c Q D cl A H0 n0 s0 ad0 md FT FK EL cs (pc + 1) L (.inr (.inl (zland a b)) :: S) h) : zAW p l e R s m args below meth c Q D cl A H0 n0 s0 ad0 md FT FK EL cs pc L (.inr (.inl b) :: .inr (.inl a) :: S) h := by
  intro ad H locs ls hSt hL hS hl
  refine lv_land hx hb hd ?_
  have k2 := k ad H locs ls hSt hL (zNS_c (v := .inr (.inl (zland a b))) (zI64_t _) (zNS_t (zNS_t hS))) hl
  have e : zc ad (.inr (.inl (zland a b))) = .long _ := congrArg Value.long (zol _)
  rw [List.map_cons, e] at k2
  exact k2
theorem zs_lor {p : Program} {l : Launch} {e : Env} {R : Room} {s : State} {m : MethodId} {args : Array Value} {below : List Frame} {meth : Method} {c : Code} {Q : State → Prop} {D : va_G} {cl : List vw_C} {A : Nat → Prop} {H0 : Heap} {n0 s0 : Nat} {ad0 : Nat → Nat} {md : Bool} {FT : Nat → List Nat} {FK : Nat → Nat → Nat × Nat × Int} {EL : Nat → Nat × Nat} {cs : Nat → ClassId} {cc : ByteArray} {pc : Nat} {L : zL} {S : List zV} {h : zH} (hx : p.tables.exec = Jvm.exec) (hb : c.code = cc) {a b : Int} (hd : decode cc pc = .ok (.lor, 1)) (k : zAW p l e R s m args below meth c Q D cl A H0 n0 s0 ad0 md FT FK EL cs (pc + 1) L (.inr (.inl (zlor a b)) :: S) h) : zAW p l e R s m args below meth c Q D cl A H0 n0 s0 ad0 md FT FK EL cs pc L (.inr (.inl b) :: .inr (.inl a) :: S) h := by
  intro ad H locs ls hSt hL hS hl
  refine lv_lor hx hb hd ?_
  have k2 := k ad H locs ls hSt hL (zNS_c (v := .inr (.inl (zlor a b))) (zI64_t _) (zNS_t (zNS_t hS))) hl
  have e : zc ad (.inr (.inl (zlor a b))) = .long _ := congrArg Value.long (zol _)
  rw [List.map_cons, e] at k2
  exact k2
theorem zs_lxor {p : Program} {l : Launch} {e : Env} {R : Room} {s : State} {m : MethodId} {args : Array Value} {below : List Frame} {meth : Method} {c : Code} {Q : State → Prop} {D : va_G} {cl : List vw_C} {A : Nat → Prop} {H0 : Heap} {n0 s0 : Nat} {ad0 : Nat → Nat} {md : Bool} {FT : Nat → List Nat} {FK : Nat → Nat → Nat × Nat × Int} {EL : Nat → Nat × Nat} {cs : Nat → ClassId} {cc : ByteArray} {pc : Nat} {L : zL} {S : List zV} {h : zH} (hx : p.tables.exec = Jvm.exec) (hb : c.code = cc) {a b : Int} (hd : decode cc pc = .ok (.lxor, 1)) (k : zAW p l e R s m args below meth c Q D cl A H0 n0 s0 ad0 md FT FK EL cs (pc + 1) L (.inr (.inl (zlxor a b)) :: S) h) : zAW p l e R s m args below meth c Q D cl A H0 n0 s0 ad0 md FT FK EL cs pc L (.inr (.inl b) :: .inr (.inl a) :: S) h := by
  intro ad H locs ls hSt hL hS hl
  refine lv_lxor hx hb hd ?_
  have k2 := k ad H locs ls hSt hL (zNS_c (v := .inr (.inl (zlxor a b))) (zI64_t _) (zNS_t (zNS_t hS))) hl
  have e : zc ad (.inr (.inl (zlxor a b))) = .long _ := congrArg Value.long (zol _)
  rw [List.map_cons, e] at k2
  exact k2
theorem zs_lshl {p : Program} {l : Launch} {e : Env} {R : Room} {s : State} {m : MethodId} {args : Array Value} {below : List Frame} {meth : Method} {c : Code} {Q : State → Prop} {D : va_G} {cl : List vw_C} {A : Nat → Prop} {H0 : Heap} {n0 s0 : Nat} {ad0 : Nat → Nat} {md : Bool} {FT : Nat → List Nat} {FK : Nat → Nat → Nat × Nat × Int} {EL : Nat → Nat × Nat} {cs : Nat → ClassId} {cc : ByteArray} {pc : Nat} {L : zL} {S : List zV} {h : zH} (hx : p.tables.exec = Jvm.exec) (hb : c.code = cc) {a b : Int} (hd : decode cc pc = .ok (.lshl, 1)) (k : zAW p l e R s m args below meth c Q D cl A H0 n0 s0 ad0 md FT FK EL cs (pc + 1) L (.inr (.inl (zlshl a b)) :: S) h) : zAW p l e R s m args below meth c Q D cl A H0 n0 s0 ad0 md FT FK EL cs pc L (.inl b :: .inr (.inl a) :: S) h := by
  intro ad H locs ls hSt hL hS hl
  exact lv_lshl hx hb hd (zol _).symm (k ad H locs ls hSt hL (zNS_c (v := .inr (.inl (zlshl a b))) (zI64_t _) (zNS_t (zNS_t hS))) hl)
theorem zs_lshr {p : Program} {l : Launch} {e : Env} {R : Room} {s : State} {m : MethodId} {args : Array Value} {below : List Frame} {meth : Method} {c : Code} {Q : State → Prop} {D : va_G} {cl : List vw_C} {A : Nat → Prop} {H0 : Heap} {n0 s0 : Nat} {ad0 : Nat → Nat} {md : Bool} {FT : Nat → List Nat} {FK : Nat → Nat → Nat × Nat × Int} {EL : Nat → Nat × Nat} {cs : Nat → ClassId} {cc : ByteArray} {pc : Nat} {L : zL} {S : List zV} {h : zH} (hx : p.tables.exec = Jvm.exec) (hb : c.code = cc) {a b : Int} (hd : decode cc pc = .ok (.lshr, 1)) (k : zAW p l e R s m args below meth c Q D cl A H0 n0 s0 ad0 md FT FK EL cs (pc + 1) L (.inr (.inl (zlshr a b)) :: S) h) : zAW p l e R s m args below meth c Q D cl A H0 n0 s0 ad0 md FT FK EL cs pc L (.inl b :: .inr (.inl a) :: S) h := by
  intro ad H locs ls hSt hL hS hl
  exact lv_lshr hx hb hd (zol _).symm (k ad H locs ls hSt hL (zNS_c (v := .inr (.inl (zlshr a b))) (zI64_t _) (zNS_t (zNS_t hS))) hl)
theorem zs_lushr {p : Program} {l : Launch} {e : Env} {R : Room} {s : State} {m : MethodId} {args : Array Value} {below : List Frame} {meth : Method} {c : Code} {Q : State → Prop} {D : va_G} {cl : List vw_C} {A : Nat → Prop} {H0 : Heap} {n0 s0 : Nat} {ad0 : Nat → Nat} {md : Bool} {FT : Nat → List Nat} {FK : Nat → Nat → Nat × Nat × Int} {EL : Nat → Nat × Nat} {cs : Nat → ClassId} {cc : ByteArray} {pc : Nat} {L : zL} {S : List zV} {h : zH} (hx : p.tables.exec = Jvm.exec) (hb : c.code = cc) {a b : Int} (hd : decode cc pc = .ok (.lushr, 1)) (k : zAW p l e R s m args below meth c Q D cl A H0 n0 s0 ad0 md FT FK EL cs (pc + 1) L (.inr (.inl (zlushr a b)) :: S) h) : zAW p l e R s m args below meth c Q D cl A H0 n0 s0 ad0 md FT FK EL cs pc L (.inl b :: .inr (.inl a) :: S) h := by
  intro ad H locs ls hSt hL hS hl
  exact lv_lushr hx hb hd (zol _).symm (k ad H locs ls hSt hL (zNS_c (v := .inr (.inl (zlushr a b))) (zI64_t _) (zNS_t (zNS_t hS))) hl)
theorem zs_ineg {p : Program} {l : Launch} {e : Env} {R : Room} {s : State} {m : MethodId} {args : Array Value} {below : List Frame} {meth : Method} {c : Code} {Q : State → Prop} {D : va_G} {cl : List vw_C} {A : Nat → Prop} {H0 : Heap} {n0 s0 : Nat} {ad0 : Nat → Nat} {md : Bool} {FT : Nat → List Nat} {FK : Nat → Nat → Nat × Nat × Int} {EL : Nat → Nat × Nat} {cs : Nat → ClassId} {cc : ByteArray} {pc : Nat} {L : zL} {S : List zV} {h : zH} (hx : p.tables.exec = Jvm.exec) (hb : c.code = cc) {a : Int} (hd : decode cc pc = .ok (.ineg, 1)) (k : zAW p l e R s m args below meth c Q D cl A H0 n0 s0 ad0 md FT FK EL cs (pc + 1) L (.inl (w32 (-a)) :: S) h) : zAW p l e R s m args below meth c Q D cl A H0 n0 s0 ad0 md FT FK EL cs pc L (.inl a :: S) h := by
  intro ad H locs ls hSt hL hS hl
  refine lv_ineg hx hb hd ?_
  rw [← zi_neg]
  exact k ad H locs ls hSt hL (zNS_c (zw32_in _) (zNS_t hS)) hl
theorem zs_lneg {p : Program} {l : Launch} {e : Env} {R : Room} {s : State} {m : MethodId} {args : Array Value} {below : List Frame} {meth : Method} {c : Code} {Q : State → Prop} {D : va_G} {cl : List vw_C} {A : Nat → Prop} {H0 : Heap} {n0 s0 : Nat} {ad0 : Nat → Nat} {md : Bool} {FT : Nat → List Nat} {FK : Nat → Nat → Nat × Nat × Int} {EL : Nat → Nat × Nat} {cs : Nat → ClassId} {cc : ByteArray} {pc : Nat} {L : zL} {S : List zV} {h : zH} (hx : p.tables.exec = Jvm.exec) (hb : c.code = cc) {a : Int} (hd : decode cc pc = .ok (.lneg, 1)) (k : zAW p l e R s m args below meth c Q D cl A H0 n0 s0 ad0 md FT FK EL cs (pc + 1) L (.inr (.inl (w64 (-a))) :: S) h) : zAW p l e R s m args below meth c Q D cl A H0 n0 s0 ad0 md FT FK EL cs pc L (.inr (.inl a) :: S) h := by
  intro ad H locs ls hSt hL hS hl
  refine lv_lneg hx hb hd ?_
  rw [← zl_neg]
  exact k ad H locs ls hSt hL (zNS_c (zw64_in _) (zNS_t hS)) hl
theorem zs_i2l {p : Program} {l : Launch} {e : Env} {R : Room} {s : State} {m : MethodId} {args : Array Value} {below : List Frame} {meth : Method} {c : Code} {Q : State → Prop} {D : va_G} {cl : List vw_C} {A : Nat → Prop} {H0 : Heap} {n0 s0 : Nat} {ad0 : Nat → Nat} {md : Bool} {FT : Nat → List Nat} {FK : Nat → Nat → Nat × Nat × Int} {EL : Nat → Nat × Nat} {cs : Nat → ClassId} {cc : ByteArray} {pc : Nat} {L : zL} {S : List zV} {h : zH} (hx : p.tables.exec = Jvm.exec) (hb : c.code = cc) {a : Int} (hd : decode cc pc = .ok (.i2l, 1)) (k : zAW p l e R s m args below meth c Q D cl A H0 n0 s0 ad0 md FT FK EL cs (pc + 1) L (.inr (.inl a) :: S) h) : zAW p l e R s m args below meth c Q D cl A H0 n0 s0 ad0 md FT FK EL cs pc L (.inl a :: S) h := by
  intro ad H locs ls hSt hL hS hl
  have ha : zI32 a := zNS_h hS
  exact lv_i2l hx hb hd (zi_l ha) (k ad H locs ls hSt hL (zNS_c (zI64_of ha) (zNS_t hS)) hl)
theorem zs_l2i {p : Program} {l : Launch} {e : Env} {R : Room} {s : State} {m : MethodId} {args : Array Value} {below : List Frame} {meth : Method} {c : Code} {Q : State → Prop} {D : va_G} {cl : List vw_C} {A : Nat → Prop} {H0 : Heap} {n0 s0 : Nat} {ad0 : Nat → Nat} {md : Bool} {FT : Nat → List Nat} {FK : Nat → Nat → Nat × Nat × Int} {EL : Nat → Nat × Nat} {cs : Nat → ClassId} {cc : ByteArray} {pc : Nat} {L : zL} {S : List zV} {h : zH} (hx : p.tables.exec = Jvm.exec) (hb : c.code = cc) {a : Int} (hd : decode cc pc = .ok (.l2i, 1)) (k : zAW p l e R s m args below meth c Q D cl A H0 n0 s0 ad0 md FT FK EL cs (pc + 1) L (.inl (w32 a) :: S) h) : zAW p l e R s m args below meth c Q D cl A H0 n0 s0 ad0 md FT FK EL cs pc L (.inr (.inl a) :: S) h := by
  intro ad H locs ls hSt hL hS hl
  exact lv_l2i hx hb hd (zl_i a) (k ad H locs ls hSt hL (zNS_c (zw32_in _) (zNS_t hS)) hl)
theorem zs_dup {p : Program} {l : Launch} {e : Env} {R : Room} {s : State} {m : MethodId} {args : Array Value} {below : List Frame} {meth : Method} {c : Code} {Q : State → Prop} {D : va_G} {cl : List vw_C} {A : Nat → Prop} {H0 : Heap} {n0 s0 : Nat} {ad0 : Nat → Nat} {md : Bool} {FT : Nat → List Nat} {FK : Nat → Nat → Nat × Nat × Int} {EL : Nat → Nat × Nat} {cs : Nat → ClassId} {cc : ByteArray} {pc : Nat} {L : zL} {S : List zV} {h : zH} (hx : p.tables.exec = Jvm.exec) (hb : c.code = cc) {v : zV} (hd : decode cc pc = .ok (.dup, 1)) (hv : ∀ a, v ≠ .inr (.inl a)) (k : zAW p l e R s m args below meth c Q D cl A H0 n0 s0 ad0 md FT FK EL cs (pc + 1) L (v :: v :: S) h) : zAW p l e R s m args below meth c Q D cl A H0 n0 s0 ad0 md FT FK EL cs pc L (v :: S) h := by
  intro ad H locs ls hSt hL hS hl
  exact lv_dup hx hb hd ((lv_cat _).resolve_right fun q => let ⟨a, ha⟩ := (zcat_zc ad v).mp q; hv a ha) (k ad H locs ls hSt hL (zNS_c (zNS_h hS) hS) hl)
theorem zs_pop {p : Program} {l : Launch} {e : Env} {R : Room} {s : State} {m : MethodId} {args : Array Value} {below : List Frame} {meth : Method} {c : Code} {Q : State → Prop} {D : va_G} {cl : List vw_C} {A : Nat → Prop} {H0 : Heap} {n0 s0 : Nat} {ad0 : Nat → Nat} {md : Bool} {FT : Nat → List Nat} {FK : Nat → Nat → Nat × Nat × Int} {EL : Nat → Nat × Nat} {cs : Nat → ClassId} {cc : ByteArray} {pc : Nat} {L : zL} {S : List zV} {h : zH} (hx : p.tables.exec = Jvm.exec) (hb : c.code = cc) {v : zV} (hd : decode cc pc = .ok (.pop, 1)) (hv : ∀ a, v ≠ .inr (.inl a)) (k : zAW p l e R s m args below meth c Q D cl A H0 n0 s0 ad0 md FT FK EL cs (pc + 1) L S h) : zAW p l e R s m args below meth c Q D cl A H0 n0 s0 ad0 md FT FK EL cs pc L (v :: S) h := by
  intro ad H locs ls hSt hL hS hl
  exact lv_pop hx hb hd ((lv_cat _).resolve_right fun q => let ⟨a, ha⟩ := (zcat_zc ad v).mp q; hv a ha) (k ad H locs ls hSt hL (zNS_t hS) hl)
theorem zs_dup2 {p : Program} {l : Launch} {e : Env} {R : Room} {s : State} {m : MethodId} {args : Array Value} {below : List Frame} {meth : Method} {c : Code} {Q : State → Prop} {D : va_G} {cl : List vw_C} {A : Nat → Prop} {H0 : Heap} {n0 s0 : Nat} {ad0 : Nat → Nat} {md : Bool} {FT : Nat → List Nat} {FK : Nat → Nat → Nat × Nat × Int} {EL : Nat → Nat × Nat} {cs : Nat → ClassId} {cc : ByteArray} {pc : Nat} {L : zL} {S : List zV} {h : zH} (hx : p.tables.exec = Jvm.exec) (hb : c.code = cc) {v w : zV} (hd : decode cc pc = .ok (.dup2, 1)) (hv : ∀ a, v ≠ .inr (.inl a)) (hw : ∀ a, w ≠ .inr (.inl a)) (k : zAW p l e R s m args below meth c Q D cl A H0 n0 s0 ad0 md FT FK EL cs (pc + 1) L (v :: w :: v :: w :: S) h) : zAW p l e R s m args below meth c Q D cl A H0 n0 s0 ad0 md FT FK EL cs pc L (v :: w :: S) h := by
  intro ad H locs ls hSt hL hS hl
  exact lv_dup2_11 hx hb hd ((lv_cat _).resolve_right fun q => let ⟨a, ha⟩ := (zcat_zc ad v).mp q; hv a ha) ((lv_cat _).resolve_right fun q => let ⟨a, ha⟩ := (zcat_zc ad w).mp q; hw a ha) (k ad H locs ls hSt hL (zNS_c (zNS_h hS) (zNS_c (zNS_h (zNS_t hS)) hS)) hl)
theorem zs_goto {p : Program} {l : Launch} {e : Env} {R : Room} {s : State} {m : MethodId} {args : Array Value} {below : List Frame} {meth : Method} {c : Code} {Q : State → Prop} {D : va_G} {cl : List vw_C} {A : Nat → Prop} {H0 : Heap} {n0 s0 : Nat} {ad0 : Nat → Nat} {md : Bool} {FT : Nat → List Nat} {FK : Nat → Nat → Nat × Nat × Int} {EL : Nat → Nat × Nat} {cs : Nat → ClassId} {cc : ByteArray} {pc : Nat} {L : zL} {S : List zV} {h : zH} (hx : p.tables.exec = Jvm.exec) (hb : c.code = cc) {off : Int} {t : Nat} (hd : decode cc pc = .ok (.goto off, 3)) (ht : (pc : Int) + off = (t : Int)) (k : zAW p l e R s m args below meth c Q D cl A H0 n0 s0 ad0 md FT FK EL cs t L S h) : zAW p l e R s m args below meth c Q D cl A H0 n0 s0 ad0 md FT FK EL cs pc L S h := by
  intro ad H locs ls hSt hL hS hl
  exact lv_goto hx hb hd ht (k ad H locs ls hSt hL hS hl)
theorem zs_icmp_eq {p : Program} {l : Launch} {e : Env} {R : Room} {s : State} {m : MethodId} {args : Array Value} {below : List Frame} {meth : Method} {c : Code} {Q : State → Prop} {D : va_G} {cl : List vw_C} {A : Nat → Prop} {H0 : Heap} {n0 s0 : Nat} {ad0 : Nat → Nat} {md : Bool} {FT : Nat → List Nat} {FK : Nat → Nat → Nat × Nat × Int} {EL : Nat → Nat × Nat} {cs : Nat → ClassId} {cc : ByteArray} {pc : Nat} {L : zL} {S : List zV} {h : zH} (hx : p.tables.exec = Jvm.exec) (hb : c.code = cc) {a b off : Int} {t : Nat} (hd : decode cc pc = .ok (.if_icmp .eq off, 3)) (ht : (pc : Int) + off = (t : Int)) (kY : a = b → zAW p l e R s m args below meth c Q D cl A H0 n0 s0 ad0 md FT FK EL cs t L S h) (kN : ¬ (a = b) → zAW p l e R s m args below meth c Q D cl A H0 n0 s0 ad0 md FT FK EL cs (pc + 3) L S h) : zAW p l e R s m args below meth c Q D cl A H0 n0 s0 ad0 md FT FK EL cs pc L (.inl b :: .inl a :: S) h := by
  intro ad H locs ls hSt hL hS hl
  have hb1 : zI32 b := zNS_h hS
  have ha : zI32 a := zNS_h (zNS_t hS)
  refine lv_icmp_eq hx hb hd ht ?_ ?_
  · exact fun q => kY ((zi_eq ha hb1).mp q) ad H locs ls hSt hL (zNS_t (zNS_t hS)) hl
  · exact fun q => kN (fun z => q ((zi_eq ha hb1).mpr z)) ad H locs ls hSt hL (zNS_t (zNS_t hS)) hl
theorem zs_if_eq {p : Program} {l : Launch} {e : Env} {R : Room} {s : State} {m : MethodId} {args : Array Value} {below : List Frame} {meth : Method} {c : Code} {Q : State → Prop} {D : va_G} {cl : List vw_C} {A : Nat → Prop} {H0 : Heap} {n0 s0 : Nat} {ad0 : Nat → Nat} {md : Bool} {FT : Nat → List Nat} {FK : Nat → Nat → Nat × Nat × Int} {EL : Nat → Nat × Nat} {cs : Nat → ClassId} {cc : ByteArray} {pc : Nat} {L : zL} {S : List zV} {h : zH} (hx : p.tables.exec = Jvm.exec) (hb : c.code = cc) {a off : Int} {t : Nat} (hd : decode cc pc = .ok (.ifCond .eq off, 3)) (ht : (pc : Int) + off = (t : Int)) (kY : a = 0 → zAW p l e R s m args below meth c Q D cl A H0 n0 s0 ad0 md FT FK EL cs t L S h) (kN : ¬ (a = 0) → zAW p l e R s m args below meth c Q D cl A H0 n0 s0 ad0 md FT FK EL cs (pc + 3) L S h) : zAW p l e R s m args below meth c Q D cl A H0 n0 s0 ad0 md FT FK EL cs pc L (.inl a :: S) h := by
  intro ad H locs ls hSt hL hS hl
  have hb1 : zI32 0 := z0_in
  have ha : zI32 a := zNS_h hS
  refine lv_if_eq hx hb hd ht ?_ ?_
  · exact fun q => kY ((zi_eq ha hb1).mp q) ad H locs ls hSt hL (zNS_t hS) hl
  · exact fun q => kN (fun z => q ((zi_eq ha hb1).mpr z)) ad H locs ls hSt hL (zNS_t hS) hl
theorem zs_icmp_ne {p : Program} {l : Launch} {e : Env} {R : Room} {s : State} {m : MethodId} {args : Array Value} {below : List Frame} {meth : Method} {c : Code} {Q : State → Prop} {D : va_G} {cl : List vw_C} {A : Nat → Prop} {H0 : Heap} {n0 s0 : Nat} {ad0 : Nat → Nat} {md : Bool} {FT : Nat → List Nat} {FK : Nat → Nat → Nat × Nat × Int} {EL : Nat → Nat × Nat} {cs : Nat → ClassId} {cc : ByteArray} {pc : Nat} {L : zL} {S : List zV} {h : zH} (hx : p.tables.exec = Jvm.exec) (hb : c.code = cc) {a b off : Int} {t : Nat} (hd : decode cc pc = .ok (.if_icmp .ne off, 3)) (ht : (pc : Int) + off = (t : Int)) (kY : a = b → zAW p l e R s m args below meth c Q D cl A H0 n0 s0 ad0 md FT FK EL cs (pc + 3) L S h) (kN : ¬ (a = b) → zAW p l e R s m args below meth c Q D cl A H0 n0 s0 ad0 md FT FK EL cs t L S h) : zAW p l e R s m args below meth c Q D cl A H0 n0 s0 ad0 md FT FK EL cs pc L (.inl b :: .inl a :: S) h := by
  intro ad H locs ls hSt hL hS hl
  have hb1 : zI32 b := zNS_h hS
  have ha : zI32 a := zNS_h (zNS_t hS)
  refine lv_icmp_ne hx hb hd ht ?_ ?_
  · exact fun q => kN (fun z => q ((zi_eq ha hb1).mpr z)) ad H locs ls hSt hL (zNS_t (zNS_t hS)) hl
  · exact fun q => kY ((zi_eq ha hb1).mp q) ad H locs ls hSt hL (zNS_t (zNS_t hS)) hl
theorem zs_if_ne {p : Program} {l : Launch} {e : Env} {R : Room} {s : State} {m : MethodId} {args : Array Value} {below : List Frame} {meth : Method} {c : Code} {Q : State → Prop} {D : va_G} {cl : List vw_C} {A : Nat → Prop} {H0 : Heap} {n0 s0 : Nat} {ad0 : Nat → Nat} {md : Bool} {FT : Nat → List Nat} {FK : Nat → Nat → Nat × Nat × Int} {EL : Nat → Nat × Nat} {cs : Nat → ClassId} {cc : ByteArray} {pc : Nat} {L : zL} {S : List zV} {h : zH} (hx : p.tables.exec = Jvm.exec) (hb : c.code = cc) {a off : Int} {t : Nat} (hd : decode cc pc = .ok (.ifCond .ne off, 3)) (ht : (pc : Int) + off = (t : Int)) (kY : a = 0 → zAW p l e R s m args below meth c Q D cl A H0 n0 s0 ad0 md FT FK EL cs (pc + 3) L S h) (kN : ¬ (a = 0) → zAW p l e R s m args below meth c Q D cl A H0 n0 s0 ad0 md FT FK EL cs t L S h) : zAW p l e R s m args below meth c Q D cl A H0 n0 s0 ad0 md FT FK EL cs pc L (.inl a :: S) h := by
  intro ad H locs ls hSt hL hS hl
  have hb1 : zI32 0 := z0_in
  have ha : zI32 a := zNS_h hS
  refine lv_if_ne hx hb hd ht ?_ ?_
  · exact fun q => kN (fun z => q ((zi_eq ha hb1).mpr z)) ad H locs ls hSt hL (zNS_t hS) hl
  · exact fun q => kY ((zi_eq ha hb1).mp q) ad H locs ls hSt hL (zNS_t hS) hl
theorem zs_icmp_lt {p : Program} {l : Launch} {e : Env} {R : Room} {s : State} {m : MethodId} {args : Array Value} {below : List Frame} {meth : Method} {c : Code} {Q : State → Prop} {D : va_G} {cl : List vw_C} {A : Nat → Prop} {H0 : Heap} {n0 s0 : Nat} {ad0 : Nat → Nat} {md : Bool} {FT : Nat → List Nat} {FK : Nat → Nat → Nat × Nat × Int} {EL : Nat → Nat × Nat} {cs : Nat → ClassId} {cc : ByteArray} {pc : Nat} {L : zL} {S : List zV} {h : zH} (hx : p.tables.exec = Jvm.exec) (hb : c.code = cc) {a b off : Int} {t : Nat} (hd : decode cc pc = .ok (.if_icmp .lt off, 3)) (ht : (pc : Int) + off = (t : Int)) (kY : a < b → zAW p l e R s m args below meth c Q D cl A H0 n0 s0 ad0 md FT FK EL cs t L S h) (kN : ¬ (a < b) → zAW p l e R s m args below meth c Q D cl A H0 n0 s0 ad0 md FT FK EL cs (pc + 3) L S h) : zAW p l e R s m args below meth c Q D cl A H0 n0 s0 ad0 md FT FK EL cs pc L (.inl b :: .inl a :: S) h := by
  intro ad H locs ls hSt hL hS hl
  have hb1 : zI32 b := zNS_h hS
  have ha : zI32 a := zNS_h (zNS_t hS)
  refine lv_icmp_lt hx hb hd ht ?_ ?_
  · exact fun q => kY ((zi_lt ha hb1).mp q) ad H locs ls hSt hL (zNS_t (zNS_t hS)) hl
  · exact fun q => kN (fun z => q ((zi_lt ha hb1).mpr z)) ad H locs ls hSt hL (zNS_t (zNS_t hS)) hl
theorem zs_if_lt {p : Program} {l : Launch} {e : Env} {R : Room} {s : State} {m : MethodId} {args : Array Value} {below : List Frame} {meth : Method} {c : Code} {Q : State → Prop} {D : va_G} {cl : List vw_C} {A : Nat → Prop} {H0 : Heap} {n0 s0 : Nat} {ad0 : Nat → Nat} {md : Bool} {FT : Nat → List Nat} {FK : Nat → Nat → Nat × Nat × Int} {EL : Nat → Nat × Nat} {cs : Nat → ClassId} {cc : ByteArray} {pc : Nat} {L : zL} {S : List zV} {h : zH} (hx : p.tables.exec = Jvm.exec) (hb : c.code = cc) {a off : Int} {t : Nat} (hd : decode cc pc = .ok (.ifCond .lt off, 3)) (ht : (pc : Int) + off = (t : Int)) (kY : a < 0 → zAW p l e R s m args below meth c Q D cl A H0 n0 s0 ad0 md FT FK EL cs t L S h) (kN : ¬ (a < 0) → zAW p l e R s m args below meth c Q D cl A H0 n0 s0 ad0 md FT FK EL cs (pc + 3) L S h) : zAW p l e R s m args below meth c Q D cl A H0 n0 s0 ad0 md FT FK EL cs pc L (.inl a :: S) h := by
  intro ad H locs ls hSt hL hS hl
  have hb1 : zI32 0 := z0_in
  have ha : zI32 a := zNS_h hS
  refine lv_if_lt hx hb hd ht ?_ ?_
  · exact fun q => kY ((zi_lt ha hb1).mp q) ad H locs ls hSt hL (zNS_t hS) hl
  · exact fun q => kN (fun z => q ((zi_lt ha hb1).mpr z)) ad H locs ls hSt hL (zNS_t hS) hl
theorem zs_icmp_ge {p : Program} {l : Launch} {e : Env} {R : Room} {s : State} {m : MethodId} {args : Array Value} {below : List Frame} {meth : Method} {c : Code} {Q : State → Prop} {D : va_G} {cl : List vw_C} {A : Nat → Prop} {H0 : Heap} {n0 s0 : Nat} {ad0 : Nat → Nat} {md : Bool} {FT : Nat → List Nat} {FK : Nat → Nat → Nat × Nat × Int} {EL : Nat → Nat × Nat} {cs : Nat → ClassId} {cc : ByteArray} {pc : Nat} {L : zL} {S : List zV} {h : zH} (hx : p.tables.exec = Jvm.exec) (hb : c.code = cc) {a b off : Int} {t : Nat} (hd : decode cc pc = .ok (.if_icmp .ge off, 3)) (ht : (pc : Int) + off = (t : Int)) (kY : a < b → zAW p l e R s m args below meth c Q D cl A H0 n0 s0 ad0 md FT FK EL cs (pc + 3) L S h) (kN : ¬ (a < b) → zAW p l e R s m args below meth c Q D cl A H0 n0 s0 ad0 md FT FK EL cs t L S h) : zAW p l e R s m args below meth c Q D cl A H0 n0 s0 ad0 md FT FK EL cs pc L (.inl b :: .inl a :: S) h := by
  intro ad H locs ls hSt hL hS hl
  have hb1 : zI32 b := zNS_h hS
  have ha : zI32 a := zNS_h (zNS_t hS)
  refine lv_icmp_ge hx hb hd ht ?_ ?_
  · exact fun q => kN (fun z => absurd ((zi_le hb1 ha).mp q) (by omega)) ad H locs ls hSt hL (zNS_t (zNS_t hS)) hl
  · exact fun q => kY (Decidable.byContradiction fun z => q ((zi_le hb1 ha).mpr (by omega))) ad H locs ls hSt hL (zNS_t (zNS_t hS)) hl
theorem zs_if_ge {p : Program} {l : Launch} {e : Env} {R : Room} {s : State} {m : MethodId} {args : Array Value} {below : List Frame} {meth : Method} {c : Code} {Q : State → Prop} {D : va_G} {cl : List vw_C} {A : Nat → Prop} {H0 : Heap} {n0 s0 : Nat} {ad0 : Nat → Nat} {md : Bool} {FT : Nat → List Nat} {FK : Nat → Nat → Nat × Nat × Int} {EL : Nat → Nat × Nat} {cs : Nat → ClassId} {cc : ByteArray} {pc : Nat} {L : zL} {S : List zV} {h : zH} (hx : p.tables.exec = Jvm.exec) (hb : c.code = cc) {a off : Int} {t : Nat} (hd : decode cc pc = .ok (.ifCond .ge off, 3)) (ht : (pc : Int) + off = (t : Int)) (kY : a < 0 → zAW p l e R s m args below meth c Q D cl A H0 n0 s0 ad0 md FT FK EL cs (pc + 3) L S h) (kN : ¬ (a < 0) → zAW p l e R s m args below meth c Q D cl A H0 n0 s0 ad0 md FT FK EL cs t L S h) : zAW p l e R s m args below meth c Q D cl A H0 n0 s0 ad0 md FT FK EL cs pc L (.inl a :: S) h := by
  intro ad H locs ls hSt hL hS hl
  have hb1 : zI32 0 := z0_in
  have ha : zI32 a := zNS_h hS
  refine lv_if_ge hx hb hd ht ?_ ?_
  · exact fun q => kN (fun z => absurd ((zi_le hb1 ha).mp q) (by omega)) ad H locs ls hSt hL (zNS_t hS) hl
  · exact fun q => kY (Decidable.byContradiction fun z => q ((zi_le hb1 ha).mpr (by omega))) ad H locs ls hSt hL (zNS_t hS) hl
theorem zs_icmp_gt {p : Program} {l : Launch} {e : Env} {R : Room} {s : State} {m : MethodId} {args : Array Value} {below : List Frame} {meth : Method} {c : Code} {Q : State → Prop} {D : va_G} {cl : List vw_C} {A : Nat → Prop} {H0 : Heap} {n0 s0 : Nat} {ad0 : Nat → Nat} {md : Bool} {FT : Nat → List Nat} {FK : Nat → Nat → Nat × Nat × Int} {EL : Nat → Nat × Nat} {cs : Nat → ClassId} {cc : ByteArray} {pc : Nat} {L : zL} {S : List zV} {h : zH} (hx : p.tables.exec = Jvm.exec) (hb : c.code = cc) {a b off : Int} {t : Nat} (hd : decode cc pc = .ok (.if_icmp .gt off, 3)) (ht : (pc : Int) + off = (t : Int)) (kY : b < a → zAW p l e R s m args below meth c Q D cl A H0 n0 s0 ad0 md FT FK EL cs t L S h) (kN : ¬ (b < a) → zAW p l e R s m args below meth c Q D cl A H0 n0 s0 ad0 md FT FK EL cs (pc + 3) L S h) : zAW p l e R s m args below meth c Q D cl A H0 n0 s0 ad0 md FT FK EL cs pc L (.inl b :: .inl a :: S) h := by
  intro ad H locs ls hSt hL hS hl
  have hb1 : zI32 b := zNS_h hS
  have ha : zI32 a := zNS_h (zNS_t hS)
  refine lv_icmp_gt hx hb hd ht ?_ ?_
  · exact fun q => kY ((zi_lt hb1 ha).mp q) ad H locs ls hSt hL (zNS_t (zNS_t hS)) hl
  · exact fun q => kN (fun z => q ((zi_lt hb1 ha).mpr z)) ad H locs ls hSt hL (zNS_t (zNS_t hS)) hl
theorem zs_if_gt {p : Program} {l : Launch} {e : Env} {R : Room} {s : State} {m : MethodId} {args : Array Value} {below : List Frame} {meth : Method} {c : Code} {Q : State → Prop} {D : va_G} {cl : List vw_C} {A : Nat → Prop} {H0 : Heap} {n0 s0 : Nat} {ad0 : Nat → Nat} {md : Bool} {FT : Nat → List Nat} {FK : Nat → Nat → Nat × Nat × Int} {EL : Nat → Nat × Nat} {cs : Nat → ClassId} {cc : ByteArray} {pc : Nat} {L : zL} {S : List zV} {h : zH} (hx : p.tables.exec = Jvm.exec) (hb : c.code = cc) {a off : Int} {t : Nat} (hd : decode cc pc = .ok (.ifCond .gt off, 3)) (ht : (pc : Int) + off = (t : Int)) (kY : 0 < a → zAW p l e R s m args below meth c Q D cl A H0 n0 s0 ad0 md FT FK EL cs t L S h) (kN : ¬ (0 < a) → zAW p l e R s m args below meth c Q D cl A H0 n0 s0 ad0 md FT FK EL cs (pc + 3) L S h) : zAW p l e R s m args below meth c Q D cl A H0 n0 s0 ad0 md FT FK EL cs pc L (.inl a :: S) h := by
  intro ad H locs ls hSt hL hS hl
  have hb1 : zI32 0 := z0_in
  have ha : zI32 a := zNS_h hS
  refine lv_if_gt hx hb hd ht ?_ ?_
  · exact fun q => kY ((zi_lt hb1 ha).mp q) ad H locs ls hSt hL (zNS_t hS) hl
  · exact fun q => kN (fun z => q ((zi_lt hb1 ha).mpr z)) ad H locs ls hSt hL (zNS_t hS) hl
theorem zs_icmp_le {p : Program} {l : Launch} {e : Env} {R : Room} {s : State} {m : MethodId} {args : Array Value} {below : List Frame} {meth : Method} {c : Code} {Q : State → Prop} {D : va_G} {cl : List vw_C} {A : Nat → Prop} {H0 : Heap} {n0 s0 : Nat} {ad0 : Nat → Nat} {md : Bool} {FT : Nat → List Nat} {FK : Nat → Nat → Nat × Nat × Int} {EL : Nat → Nat × Nat} {cs : Nat → ClassId} {cc : ByteArray} {pc : Nat} {L : zL} {S : List zV} {h : zH} (hx : p.tables.exec = Jvm.exec) (hb : c.code = cc) {a b off : Int} {t : Nat} (hd : decode cc pc = .ok (.if_icmp .le off, 3)) (ht : (pc : Int) + off = (t : Int)) (kY : b < a → zAW p l e R s m args below meth c Q D cl A H0 n0 s0 ad0 md FT FK EL cs (pc + 3) L S h) (kN : ¬ (b < a) → zAW p l e R s m args below meth c Q D cl A H0 n0 s0 ad0 md FT FK EL cs t L S h) : zAW p l e R s m args below meth c Q D cl A H0 n0 s0 ad0 md FT FK EL cs pc L (.inl b :: .inl a :: S) h := by
  intro ad H locs ls hSt hL hS hl
  have hb1 : zI32 b := zNS_h hS
  have ha : zI32 a := zNS_h (zNS_t hS)
  refine lv_icmp_le hx hb hd ht ?_ ?_
  · exact fun q => kN (fun z => absurd ((zi_le ha hb1).mp q) (by omega)) ad H locs ls hSt hL (zNS_t (zNS_t hS)) hl
  · exact fun q => kY (Decidable.byContradiction fun z => q ((zi_le ha hb1).mpr (by omega))) ad H locs ls hSt hL (zNS_t (zNS_t hS)) hl
theorem zs_if_le {p : Program} {l : Launch} {e : Env} {R : Room} {s : State} {m : MethodId} {args : Array Value} {below : List Frame} {meth : Method} {c : Code} {Q : State → Prop} {D : va_G} {cl : List vw_C} {A : Nat → Prop} {H0 : Heap} {n0 s0 : Nat} {ad0 : Nat → Nat} {md : Bool} {FT : Nat → List Nat} {FK : Nat → Nat → Nat × Nat × Int} {EL : Nat → Nat × Nat} {cs : Nat → ClassId} {cc : ByteArray} {pc : Nat} {L : zL} {S : List zV} {h : zH} (hx : p.tables.exec = Jvm.exec) (hb : c.code = cc) {a off : Int} {t : Nat} (hd : decode cc pc = .ok (.ifCond .le off, 3)) (ht : (pc : Int) + off = (t : Int)) (kY : 0 < a → zAW p l e R s m args below meth c Q D cl A H0 n0 s0 ad0 md FT FK EL cs (pc + 3) L S h) (kN : ¬ (0 < a) → zAW p l e R s m args below meth c Q D cl A H0 n0 s0 ad0 md FT FK EL cs t L S h) : zAW p l e R s m args below meth c Q D cl A H0 n0 s0 ad0 md FT FK EL cs pc L (.inl a :: S) h := by
  intro ad H locs ls hSt hL hS hl
  have hb1 : zI32 0 := z0_in
  have ha : zI32 a := zNS_h hS
  refine lv_if_le hx hb hd ht ?_ ?_
  · exact fun q => kN (fun z => absurd ((zi_le ha hb1).mp q) (by omega)) ad H locs ls hSt hL (zNS_t hS) hl
  · exact fun q => kY (Decidable.byContradiction fun z => q ((zi_le ha hb1).mpr (by omega))) ad H locs ls hSt hL (zNS_t hS) hl
