def ztys (cs : Nat → ClassId) (SC : String) : List (ClassId × FieldType) := [(cs 100, .int), (cs 101, .long), (cs 102, .boolean), (cs 103, .object SC), (cs 104, .array .int)]
theorem zcell {FT : Nat → List Nat} {cs : Nat → ClassId} (ad : Nat → Nat) {h : zH} {r : Int} {kd w : Nat} (hr : zRef h r kd w) (h0 : 0 ≤ r) : (zw FT cs ad h)[r.toNat]? = some (ad r.toNat, zce FT cs ad kd w (h r)) := by
  rcases hr with hr | ⟨_, h1, h2, h3⟩
  · omega
  have hk : r.toNat < zn h := by unfold zn; omega
  have e : ((r.toNat : Nat) : Int) = r := by omega
  rw [zw_get hk]
  unfold zkd zln
  rw [e, h2, h3]
  rfl
theorem zcr {ad : Nat → Nat} {r : Int} {k w : Nat} (h0 : 0 ≤ r) : zc ad (.inr (.inr (r, k, w))) = .ref (ad r.toNat) := by
  show va_rf (zro ad r) = _
  unfold zro
  rw [if_neg (by omega)]
  rfl
theorem zRef_kd {h : zH} {r : Int} {kd w : Nat} (hr : zRef h r kd w) (h0 : 0 ≤ r) : zkd h r.toNat = kd ∧ zln h r.toNat = w ∧ (r.toNat : Int) < h (-1) 0 := by
  rcases hr with hr | ⟨_, h1, h2, h3⟩
  · omega
  have e : ((r.toNat : Nat) : Int) = r := by omega
  unfold zkd zln
  rw [e, h2, h3]
  exact ⟨rfl, rfl, h1⟩
theorem zelt {md : Bool} {FT : Nat → List Nat} {FK : Nat → Nat → Nat × Nat × Int} {EL : Nat → Nat × Nat} {h : zH} (hW : zWF md FT FK EL h) {r i : Int} {kd w : Nat} (hr : zRef h r kd w) (h0 : 0 ≤ r) (hk : 100 ≤ kd) (h1 : 0 ≤ i) (h2 : i < w) : zEo EL h kd (h r i) := by
  obtain ⟨e1, e2, e3⟩ := zRef_kd hr h0
  obtain ⟨_, c2, _⟩ := hW.2.2 r.toNat e3
  rw [e1] at c2
  have e : ((r.toNat : Nat) : Int) = r := by omega
  have e4 : h (-3) r = w := by
    rcases hr with hr | ⟨_, _, _, h3⟩
    · omega
    · exact h3
  have := c2 hk i (Or.inr ⟨h1, by rw [e, e4]; exact h2⟩)
  rwa [e] at this
theorem zfld {md : Bool} {FT : Nat → List Nat} {FK : Nat → Nat → Nat × Nat × Int} {EL : Nat → Nat × Nat} {h : zH} (hW : zWF md FT FK EL h) {r : Int} {kd w j ty : Nat} (hr : zRef h r kd w) (h0 : 0 ≤ r) (hk : kd < 100) (ht : (FT kd)[j]? = some ty) : zFo md h r.toNat ty (FK kd j) (h r j) := by
  obtain ⟨e1, e2, e3⟩ := zRef_kd hr h0
  obtain ⟨_, _, c3⟩ := hW.2.2 r.toNat e3
  rw [e1] at c3
  have e : ((r.toNat : Nat) : Int) = r := by omega
  have := (c3 hk).2 j ty ht
  rwa [e] at this
theorem zln60 {md : Bool} {FT : Nat → List Nat} {FK : Nat → Nat → Nat × Nat × Int} {EL : Nat → Nat × Nat} {h : zH} (hW : zWF md FT FK EL h) {r : Int} {kd w : Nat} (hr : zRef h r kd w) (h0 : 0 ≤ r) : w < 60000 := by
  obtain ⟨e1, e2, e3⟩ := zRef_kd hr h0
  obtain ⟨⟨_, c1, c2⟩, _, _⟩ := hW.2.2 r.toNat e3
  unfold zln at e2
  omega
theorem zSt_set {D : va_G} {cl : List vw_C} {A : Nat → Prop} {H0 : Heap} {n0 s0 : Nat} {ad0 : Nat → Nat} {md : Bool} {FT : Nat → List Nat} {FK : Nat → Nat → Nat × Nat × Int} {EL : Nat → Nat × Nat} {cs : Nat → ClassId} {h : zH} {ad : Nat → Nat} {H H1 : Heap} {locs locs1 : List Loc} {r i v : Int} (hSt : zSt D cl A H0 n0 s0 ad0 md FT FK EL cs ad h H locs) (hr : 0 ≤ r) (hW : zWF md FT FK EL (zset h r i v)) (hP : va_P D cl (zw FT cs ad (zset h r i v)) H1) (hD : va_D A (zw FT cs ad (zset h r i v))) (hS : va_S A H0 H1 locs1) : zSt D cl A H0 n0 s0 ad0 md FT FK EL cs ad (zset h r i v) H1 locs1 :=
  ⟨hW, by rw [zn_set hr, zsl_set hr]; exact hSt.2.1, hP, hD, hS⟩
theorem zNS_set {h : zH} {r i v : Int} (hr : 0 ≤ r) {S : List zV} (hS : zNS h S) : zNS (zset h r i v) S := fun x hx => (zN_set hr).mpr (hS x hx)
theorem zNL_set {h : zH} {r i v : Int} (hr : 0 ≤ r) {L : zL} (hL : zNL h L) : zNL (zset h r i v) L := fun j x hx => (zN_set hr).mpr (hL j x hx)
/-- what is left to show behind a store -/
theorem zput {p : Program} {l : Launch} {e : Env} {R : Room} {s : State} {m : MethodId} {args : Array Value} {below : List Frame} {meth : Method} {c : Code} {Q : State → Prop} {D : va_G} {cl : List vw_C} {A : Nat → Prop} {H0 : Heap} {n0 s0 : Nat} {ad0 : Nat → Nat} {md : Bool} {FT : Nat → List Nat} {FK : Nat → Nat → Nat × Nat × Int} {EL : Nat → Nat × Nat} {cs : Nat → ClassId} {pc : Nat} {L : zL} {S : List zV} {h : zH} {ad : Nat → Nat} {H H1 : Heap} {locs locs1 : List Loc} {ls : Array Slot} {r i v : Int} {ce : va_E} (k : zAW p l e R s m args below meth c Q D cl A H0 n0 s0 ad0 md FT FK EL cs pc L S (zset h r i v)) (hSt : zSt D cl A H0 n0 s0 ad0 md FT FK EL cs ad h H locs) (hr : 0 ≤ r) (hW : zWF md FT FK EL (zset h r i v)) (hL : zNL h L) (hS : zNS h S) (hl : zLs ad ls L) (he : zce FT cs ad (zkd h r.toNat) (zln h r.toNat) (zset h r i v r) = ce)
    (hP : va_P D cl ((zw FT cs ad h).set r.toNat (ad r.toNat, ce)) H1) (hD : va_D A ((zw FT cs ad h).set r.toNat (ad r.toNat, ce))) (hS1 : va_S A H0 H1 locs1) : W p l e R s m args below meth c H1 locs1 (zn h - n0) (zsl h - s0) Q (F0 m pc ls (S.map (zc ad))) := by
  rw [← he, ← zw_set hr] at hP hD
  have := k ad H1 locs1 ls (zSt_set hSt hr hW hP hD hS1) (zNL_set hr hL) (zNS_set hr hS) hl
  rwa [zn_set hr, zsl_set hr] at this
theorem zs_iaload {p : Program} {l : Launch} {e : Env} {R : Room} {s : State} {m : MethodId} {args : Array Value} {below : List Frame} {meth : Method} {c : Code} {Q : State → Prop} {D : va_G} {cl : List vw_C} {A : Nat → Prop} {H0 : Heap} {n0 s0 : Nat} {ad0 : Nat → Nat} {md : Bool} {FT : Nat → List Nat} {FK : Nat → Nat → Nat × Nat × Int} {EL : Nat → Nat × Nat} {cs : Nat → ClassId} {cc : ByteArray} {pc : Nat} {L : zL} {S : List zV} {h : zH} {SC : String} (hx : p.tables.exec = Jvm.exec) (hb : c.code = cc) (hK : va_K D cl (ztys cs SC) s) {r i : Int} {w : Nat} (h0 : 0 ≤ r) (h1 : 0 ≤ i) (h2 : i < w) (hd : decode cc pc = .ok (.iaload, 1)) (k : zAW p l e R s m args below meth c Q D cl A H0 n0 s0 ad0 md FT FK EL cs (pc + 1) L (.inl (h r i) :: S) h) : zAW p l e R s m args below meth c Q D cl A H0 n0 s0 ad0 md FT FK EL cs pc L (.inl i :: .inr (.inr (r, 100, w)) :: S) h := by
  intro ad H locs ls hSt hL hS hl
  have hi : zI32 i := zNS_h hS
  have hr : zRef h r 100 w := zNS_h (zNS_t hS)
  have hc : (zw FT cs ad h)[r.toNat]? = some (ad r.toNat, .inl (cs 100, w, .inl (fun j => Int32.ofInt (h r j)))) := zcell ad hr h0
  show W p l e R s m args below meth c H locs (zn h - n0) (zsl h - s0) Q (F0 m pc ls (.int (Int32.ofInt i) :: zc ad (.inr (.inr (r, 100, w))) :: S.map (zc ad)))
  rw [zcr h0]
  refine va_iald hx hb hK hSt.2.2.1 r.toNat 0 hc rfl (zi_in hi h1 h2) hd ?_
  have k2 : W p l e R s m args below meth c H locs (zn h - n0) (zsl h - s0) Q (F0 m (pc + 1) ls (.int (Int32.ofInt (h r i)) :: S.map (zc ad))) := k ad H locs ls hSt hL (zNS_c ((zelt hSt.1 hr h0 (by omega) h1 h2).1 rfl) (zNS_t (zNS_t hS))) hl
  rw [zi_clamp hi]
  rw [show h r i = h r (i.toNat : Int) by rw [show ((i.toNat : Nat) : Int) = i by omega]] at k2
  exact k2
theorem zs_baload {p : Program} {l : Launch} {e : Env} {R : Room} {s : State} {m : MethodId} {args : Array Value} {below : List Frame} {meth : Method} {c : Code} {Q : State → Prop} {D : va_G} {cl : List vw_C} {A : Nat → Prop} {H0 : Heap} {n0 s0 : Nat} {ad0 : Nat → Nat} {md : Bool} {FT : Nat → List Nat} {FK : Nat → Nat → Nat × Nat × Int} {EL : Nat → Nat × Nat} {cs : Nat → ClassId} {cc : ByteArray} {pc : Nat} {L : zL} {S : List zV} {h : zH} {SC : String} (hx : p.tables.exec = Jvm.exec) (hb : c.code = cc) (hK : va_K D cl (ztys cs SC) s) {r i : Int} {w : Nat} (h0 : 0 ≤ r) (h1 : 0 ≤ i) (h2 : i < w) (hd : decode cc pc = .ok (.baload, 1)) (k : zAW p l e R s m args below meth c Q D cl A H0 n0 s0 ad0 md FT FK EL cs (pc + 1) L (.inl (h r i) :: S) h) : zAW p l e R s m args below meth c Q D cl A H0 n0 s0 ad0 md FT FK EL cs pc L (.inl i :: .inr (.inr (r, 102, w)) :: S) h := by
  intro ad H locs ls hSt hL hS hl
  have hi : zI32 i := zNS_h hS
  have hr : zRef h r 102 w := zNS_h (zNS_t hS)
  have hc : (zw FT cs ad h)[r.toNat]? = some (ad r.toNat, .inl (cs 102, w, .inl (fun j => Int32.ofInt (h r j)))) := zcell ad hr h0
  show W p l e R s m args below meth c H locs (zn h - n0) (zsl h - s0) Q (F0 m pc ls (.int (Int32.ofInt i) :: zc ad (.inr (.inr (r, 102, w))) :: S.map (zc ad)))
  rw [zcr h0]
  refine va_zald hx hb hK hSt.2.2.1 r.toNat 2 hc rfl (zi_in hi h1 h2) hd ?_
  have k2 : W p l e R s m args below meth c H locs (zn h - n0) (zsl h - s0) Q (F0 m (pc + 1) ls (.int (Int32.ofInt (h r i)) :: S.map (zc ad))) := k ad H locs ls hSt hL (zNS_c (by rcases (zelt hSt.1 hr h0 (by omega) h1 h2).2.2.1 rfl with q | q <;> (show zI32 (h r i); rw [q]; unfold zI32; omega)) (zNS_t (zNS_t hS))) hl
  rw [zi_clamp hi]
  rw [show h r i = h r (i.toNat : Int) by rw [show ((i.toNat : Nat) : Int) = i by omega]] at k2
  exact k2
theorem zs_laload {p : Program} {l : Launch} {e : Env} {R : Room} {s : State} {m : MethodId} {args : Array Value} {below : List Frame} {meth : Method} {c : Code} {Q : State → Prop} {D : va_G} {cl : List vw_C} {A : Nat → Prop} {H0 : Heap} {n0 s0 : Nat} {ad0 : Nat → Nat} {md : Bool} {FT : Nat → List Nat} {FK : Nat → Nat → Nat × Nat × Int} {EL : Nat → Nat × Nat} {cs : Nat → ClassId} {cc : ByteArray} {pc : Nat} {L : zL} {S : List zV} {h : zH} {SC : String} (hx : p.tables.exec = Jvm.exec) (hb : c.code = cc) (hK : va_K D cl (ztys cs SC) s) {r i : Int} {w : Nat} (h0 : 0 ≤ r) (h1 : 0 ≤ i) (h2 : i < w) (hd : decode cc pc = .ok (.laload, 1)) (k : zAW p l e R s m args below meth c Q D cl A H0 n0 s0 ad0 md FT FK EL cs (pc + 1) L (.inr (.inl (h r i)) :: S) h) : zAW p l e R s m args below meth c Q D cl A H0 n0 s0 ad0 md FT FK EL cs pc L (.inl i :: .inr (.inr (r, 101, w)) :: S) h := by
  intro ad H locs ls hSt hL hS hl
  have hi : zI32 i := zNS_h hS
  have hr : zRef h r 101 w := zNS_h (zNS_t hS)
  have hc : (zw FT cs ad h)[r.toNat]? = some (ad r.toNat, .inl (cs 101, w, .inr (.inl (fun j => Int64.ofInt (h r j))))) := zcell ad hr h0
  show W p l e R s m args below meth c H locs (zn h - n0) (zsl h - s0) Q (F0 m pc ls (.int (Int32.ofInt i) :: zc ad (.inr (.inr (r, 101, w))) :: S.map (zc ad)))
  rw [zcr h0]
  refine va_lald hx hb hK hSt.2.2.1 r.toNat 1 hc rfl (zi_in hi h1 h2) hd ?_
  have k2 : W p l e R s m args below meth c H locs (zn h - n0) (zsl h - s0) Q (F0 m (pc + 1) ls (.long (Int64.ofInt (h r i)) :: S.map (zc ad))) := k ad H locs ls hSt hL (zNS_c ((zelt hSt.1 hr h0 (by omega) h1 h2).2.1 rfl) (zNS_t (zNS_t hS))) hl
  rw [zi_clamp hi]
  rw [show h r i = h r (i.toNat : Int) by rw [show ((i.toNat : Nat) : Int) = i by omega]] at k2
  exact k2
theorem zs_aaload103 {p : Program} {l : Launch} {e : Env} {R : Room} {s : State} {m : MethodId} {args : Array Value} {below : List Frame} {meth : Method} {c : Code} {Q : State → Prop} {D : va_G} {cl : List vw_C} {A : Nat → Prop} {H0 : Heap} {n0 s0 : Nat} {ad0 : Nat → Nat} {md : Bool} {FT : Nat → List Nat} {FK : Nat → Nat → Nat × Nat × Int} {EL : Nat → Nat × Nat} {cs : Nat → ClassId} {cc : ByteArray} {pc : Nat} {L : zL} {S : List zV} {h : zH} {SC : String} (hx : p.tables.exec = Jvm.exec) (hb : c.code = cc) (hK : va_K D cl (ztys cs SC) s) {r i : Int} {w : Nat} (h0 : 0 ≤ r) (h1 : 0 ≤ i) (h2 : i < w) (hd : decode cc pc = .ok (.aaload, 1)) (k : zAW p l e R s m args below meth c Q D cl A H0 n0 s0 ad0 md FT FK EL cs (pc + 1) L (.inr (.inr (h r i, EL 103)) :: S) h) : zAW p l e R s m args below meth c Q D cl A H0 n0 s0 ad0 md FT FK EL cs pc L (.inl i :: .inr (.inr (r, 103, w)) :: S) h := by
  intro ad H locs ls hSt hL hS hl
  have hi : zI32 i := zNS_h hS
  have hr : zRef h r 103 w := zNS_h (zNS_t hS)
  have hc : (zw FT cs ad h)[r.toNat]? = some (ad r.toNat, .inl (cs 103, w, .inr (.inr (.inr (.inr (fun j => zro ad (h r j))))))) := zcell ad hr h0
  show W p l e R s m args below meth c H locs (zn h - n0) (zsl h - s0) Q (F0 m pc ls (.int (Int32.ofInt i) :: zc ad (.inr (.inr (r, 103, w))) :: S.map (zc ad)))
  rw [zcr h0]
  have k2 : W p l e R s m args below meth c H locs (zn h - n0) (zsl h - s0) Q (F0 m (pc + 1) ls (va_rf (zro ad (h r i)) :: S.map (zc ad))) := k ad H locs ls hSt hL (zNS_c ((zelt hSt.1 hr h0 (by omega) h1 h2).2.2.2 (by omega)) (zNS_t (zNS_t hS))) hl
  rw [show h r i = h r (i.toNat : Int) by rw [show ((i.toNat : Nat) : Int) = i by omega]] at k2
  refine va_aldq hx hb hK hSt.2.2.1 r.toNat 3 hc rfl (zi_in hi h1 h2) hd ?_
  rw [zi_clamp hi]
  exact k2
theorem zs_aaload104 {p : Program} {l : Launch} {e : Env} {R : Room} {s : State} {m : MethodId} {args : Array Value} {below : List Frame} {meth : Method} {c : Code} {Q : State → Prop} {D : va_G} {cl : List vw_C} {A : Nat → Prop} {H0 : Heap} {n0 s0 : Nat} {ad0 : Nat → Nat} {md : Bool} {FT : Nat → List Nat} {FK : Nat → Nat → Nat × Nat × Int} {EL : Nat → Nat × Nat} {cs : Nat → ClassId} {cc : ByteArray} {pc : Nat} {L : zL} {S : List zV} {h : zH} {SC : String} (hx : p.tables.exec = Jvm.exec) (hb : c.code = cc) (hK : va_K D cl (ztys cs SC) s) {r i : Int} {w : Nat} (h0 : 0 ≤ r) (h1 : 0 ≤ i) (h2 : i < w) (hd : decode cc pc = .ok (.aaload, 1)) (k : zAW p l e R s m args below meth c Q D cl A H0 n0 s0 ad0 md FT FK EL cs (pc + 1) L (.inr (.inr (h r i, EL 104)) :: S) h) : zAW p l e R s m args below meth c Q D cl A H0 n0 s0 ad0 md FT FK EL cs pc L (.inl i :: .inr (.inr (r, 104, w)) :: S) h := by
  intro ad H locs ls hSt hL hS hl
  have hi : zI32 i := zNS_h hS
  have hr : zRef h r 104 w := zNS_h (zNS_t hS)
  have hc : (zw FT cs ad h)[r.toNat]? = some (ad r.toNat, .inl (cs 104, w, .inr (.inr (.inr (.inr (fun j => zro ad (h r j))))))) := zcell ad hr h0
  show W p l e R s m args below meth c H locs (zn h - n0) (zsl h - s0) Q (F0 m pc ls (.int (Int32.ofInt i) :: zc ad (.inr (.inr (r, 104, w))) :: S.map (zc ad)))
  rw [zcr h0]
  have k2 : W p l e R s m args below meth c H locs (zn h - n0) (zsl h - s0) Q (F0 m (pc + 1) ls (va_rf (zro ad (h r i)) :: S.map (zc ad))) := k ad H locs ls hSt hL (zNS_c ((zelt hSt.1 hr h0 (by omega) h1 h2).2.2.2 (by omega)) (zNS_t (zNS_t hS))) hl
  rw [show h r i = h r (i.toNat : Int) by rw [show ((i.toNat : Nat) : Int) = i by omega]] at k2
  have hin := zi_in hi h1 h2
  have hlt : (Int32.ofInt i).toNatClampNeg < w := Nat.not_le.mp fun q => hin (Or.inr q)
  rw [← zi_clamp hi] at k2
  exact W.aald (v := va_rf (zro ad (h r ((Int32.ofInt i).toNatClampNeg : Int)))) (ty := .array .int) hx hb (hSt.2.2.1 r.toNat _ hc) ((hK.2 4 _ rfl).1 w (fun j => va_rf (zro ad (h r j)))) rfl (fun q => by cases q) (by show ¬ (Int32.ofInt i < 0 ∨ (arrV _ _ _).slots.size ≤ _); rw [arrV_size]; exact hin) (by show (arrV _ _ _).slots[_]? = _; rw [arrV_read _ _ hlt]) rfl rfl hd k2
theorem zs_iastore {p : Program} {l : Launch} {e : Env} {R : Room} {s : State} {m : MethodId} {args : Array Value} {below : List Frame} {meth : Method} {c : Code} {Q : State → Prop} {D : va_G} {cl : List vw_C} {A : Nat → Prop} {H0 : Heap} {n0 s0 : Nat} {ad0 : Nat → Nat} {md : Bool} {FT : Nat → List Nat} {FK : Nat → Nat → Nat × Nat × Int} {EL : Nat → Nat × Nat} {cs : Nat → ClassId} {cc : ByteArray} {pc : Nat} {L : zL} {S : List zV} {h : zH} {SC : String} (hx : p.tables.exec = Jvm.exec) (hb : c.code = cc) (hK : va_K D cl (ztys cs SC) s) {r i v : Int} {w : Nat} (h0 : 0 ≤ r) (h1 : 0 ≤ i) (h2 : i < w) (hd : decode cc pc = .ok (.iastore, 1)) (k : zAW p l e R s m args below meth c Q D cl A H0 n0 s0 ad0 md FT FK EL cs (pc + 1) L S (zset h r i v)) : zAW p l e R s m args below meth c Q D cl A H0 n0 s0 ad0 md FT FK EL cs pc L (.inl v :: .inl i :: .inr (.inr (r, 100, w)) :: S) h := by
  intro ad H locs ls hSt hL hS hl
  have hi : zI32 i := zNS_h (zNS_t hS)
  have hr : zRef h r 100 w := zNS_h (zNS_t (zNS_t hS))
  obtain ⟨e1, e2, e3⟩ := zRef_kd hr h0
  have hc : (zw FT cs ad h)[r.toNat]? = some (ad r.toNat, .inl (cs 100, w, .inl (fun j => Int32.ofInt (h r j)))) := zcell ad hr h0
  show W p l e R s m args below meth c H locs (zn h - n0) (zsl h - s0) Q (F0 m pc ls (.int (Int32.ofInt v) :: .int (Int32.ofInt i) :: zc ad (.inr (.inr (r, 100, w))) :: S.map (zc ad)))
  rw [zcr h0]
  refine va_iast hx hb hK hSt.2.2.1 hSt.2.2.2.1 hSt.2.2.2.2 r.toNat 0 hc rfl (zi_in hi h1 h2) hd fun H1 locs1 hP1 hD1 hS1 => ?_
  refine zput k hSt h0 (zWF_arr hSt.1 h0 (by omega) (by rw [e1]; exact ⟨fun _ => zNS_h hS, fun q => by omega, fun q => by omega, fun q => by omega⟩)) hL (zNS_t (zNS_t (zNS_t hS))) hl ?_ hP1 hD1 hS1
  rw [e1, e2]
  show (.inl (cs 100, w, .inl (fun j : Nat => Int32.ofInt (zset h r i v r j))) : va_E) = .inl (cs 100, w, .inl (upd (fun j => Int32.ofInt (h r j)) (Int32.ofInt i).toNatClampNeg (Int32.ofInt v)))
  congr 4
  funext j
  rw [zi_clamp hi, zset_g]
  by_cases e : j = i.toNat
  · subst e; simp [upd, vp_updL, show ((i.toNat : Nat) : Int) = i by omega]
  · simp [upd, vp_updL, e, show ¬ ((j : Int) = i) by omega]
theorem zs_lastore {p : Program} {l : Launch} {e : Env} {R : Room} {s : State} {m : MethodId} {args : Array Value} {below : List Frame} {meth : Method} {c : Code} {Q : State → Prop} {D : va_G} {cl : List vw_C} {A : Nat → Prop} {H0 : Heap} {n0 s0 : Nat} {ad0 : Nat → Nat} {md : Bool} {FT : Nat → List Nat} {FK : Nat → Nat → Nat × Nat × Int} {EL : Nat → Nat × Nat} {cs : Nat → ClassId} {cc : ByteArray} {pc : Nat} {L : zL} {S : List zV} {h : zH} {SC : String} (hx : p.tables.exec = Jvm.exec) (hb : c.code = cc) (hK : va_K D cl (ztys cs SC) s) {r i v : Int} {w : Nat} (h0 : 0 ≤ r) (h1 : 0 ≤ i) (h2 : i < w) (hd : decode cc pc = .ok (.lastore, 1)) (k : zAW p l e R s m args below meth c Q D cl A H0 n0 s0 ad0 md FT FK EL cs (pc + 1) L S (zset h r i v)) : zAW p l e R s m args below meth c Q D cl A H0 n0 s0 ad0 md FT FK EL cs pc L (.inr (.inl v) :: .inl i :: .inr (.inr (r, 101, w)) :: S) h := by
  intro ad H locs ls hSt hL hS hl
  have hi : zI32 i := zNS_h (zNS_t hS)
  have hr : zRef h r 101 w := zNS_h (zNS_t (zNS_t hS))
  obtain ⟨e1, e2, e3⟩ := zRef_kd hr h0
  have hc : (zw FT cs ad h)[r.toNat]? = some (ad r.toNat, .inl (cs 101, w, .inr (.inl (fun j => Int64.ofInt (h r j))))) := zcell ad hr h0
  show W p l e R s m args below meth c H locs (zn h - n0) (zsl h - s0) Q (F0 m pc ls (.long (Int64.ofInt v) :: .int (Int32.ofInt i) :: zc ad (.inr (.inr (r, 101, w))) :: S.map (zc ad)))
  rw [zcr h0]
  refine va_last hx hb hK hSt.2.2.1 hSt.2.2.2.1 hSt.2.2.2.2 r.toNat 1 hc rfl (zi_in hi h1 h2) hd fun H1 locs1 hP1 hD1 hS1 => ?_
  refine zput k hSt h0 (zWF_arr hSt.1 h0 (by omega) (by rw [e1]; exact ⟨fun q => by omega, fun _ => zNS_h hS, fun q => by omega, fun q => by omega⟩)) hL (zNS_t (zNS_t (zNS_t hS))) hl ?_ hP1 hD1 hS1
  rw [e1, e2]
  show (.inl (cs 101, w, .inr (.inl (fun j : Nat => Int64.ofInt (zset h r i v r j)))) : va_E) = .inl (cs 101, w, .inr (.inl (vp_updL (fun j => Int64.ofInt (h r j)) (Int32.ofInt i).toNatClampNeg (Int64.ofInt v))))
  congr 5
  funext j
  rw [zi_clamp hi, zset_g]
  by_cases e : j = i.toNat
  · subst e; simp [upd, vp_updL, show ((i.toNat : Nat) : Int) = i by omega]
  · simp [upd, vp_updL, e, show ¬ ((j : Int) = i) by omega]
theorem zs_bastore {p : Program} {l : Launch} {e : Env} {R : Room} {s : State} {m : MethodId} {args : Array Value} {below : List Frame} {meth : Method} {c : Code} {Q : State → Prop} {D : va_G} {cl : List vw_C} {A : Nat → Prop} {H0 : Heap} {n0 s0 : Nat} {ad0 : Nat → Nat} {md : Bool} {FT : Nat → List Nat} {FK : Nat → Nat → Nat × Nat × Int} {EL : Nat → Nat × Nat} {cs : Nat → ClassId} {cc : ByteArray} {pc : Nat} {L : zL} {S : List zV} {h : zH} {SC : String} (hx : p.tables.exec = Jvm.exec) (hb : c.code = cc) (hK : va_K D cl (ztys cs SC) s) {r i v : Int} {w : Nat} (h0 : 0 ≤ r) (h1 : 0 ≤ i) (h2 : i < w) (hv : v = 0 ∨ v = 1) (hd : decode cc pc = .ok (.bastore, 1)) (k : zAW p l e R s m args below meth c Q D cl A H0 n0 s0 ad0 md FT FK EL cs (pc + 1) L S (zset h r i v)) : zAW p l e R s m args below meth c Q D cl A H0 n0 s0 ad0 md FT FK EL cs pc L (.inl v :: .inl i :: .inr (.inr (r, 102, w)) :: S) h := by
  intro ad H locs ls hSt hL hS hl
  have hi : zI32 i := zNS_h (zNS_t hS)
  have hr : zRef h r 102 w := zNS_h (zNS_t (zNS_t hS))
  obtain ⟨e1, e2, e3⟩ := zRef_kd hr h0
  have hc : (zw FT cs ad h)[r.toNat]? = some (ad r.toNat, .inl (cs 102, w, .inl (fun j => Int32.ofInt (h r j)))) := zcell ad hr h0
  show W p l e R s m args below meth c H locs (zn h - n0) (zsl h - s0) Q (F0 m pc ls (.int (Int32.ofInt v) :: .int (Int32.ofInt i) :: zc ad (.inr (.inr (r, 102, w))) :: S.map (zc ad)))
  rw [zcr h0]
  refine va_zast hx hb hK hSt.2.2.1 hSt.2.2.2.1 hSt.2.2.2.2 r.toNat 2 hc rfl (zi_in hi h1 h2) hd fun H1 locs1 hP1 hD1 hS1 => ?_
  refine zput k hSt h0 (zWF_arr hSt.1 h0 (by omega) (by rw [e1]; exact ⟨fun q => by omega, fun q => by omega, fun _ => hv, fun q => by omega⟩)) hL (zNS_t (zNS_t (zNS_t hS))) hl ?_ hP1 hD1 hS1
  rw [e1, e2]
  show (.inl (cs 102, w, .inl (fun j : Nat => Int32.ofInt (zset h r i v r j))) : va_E) = .inl (cs 102, w, .inl (upd (fun j => Int32.ofInt (h r j)) (Int32.ofInt i).toNatClampNeg (vp_nar .boolean (Int32.ofInt v))))
  have hnar : vp_nar .boolean (Int32.ofInt v) = Int32.ofInt v := by rcases hv with q | q <;> (rw [q]; decide)
  rw [hnar]
  congr 4
  funext j
  rw [zi_clamp hi, zset_g]
  by_cases e : j = i.toNat
  · subst e; simp [upd, vp_updL, show ((i.toNat : Nat) : Int) = i by omega]
  · simp [upd, vp_updL, e, show ¬ ((j : Int) = i) by omega]
theorem zs_arraylength100 {p : Program} {l : Launch} {e : Env} {R : Room} {s : State} {m : MethodId} {args : Array Value} {below : List Frame} {meth : Method} {c : Code} {Q : State → Prop} {D : va_G} {cl : List vw_C} {A : Nat → Prop} {H0 : Heap} {n0 s0 : Nat} {ad0 : Nat → Nat} {md : Bool} {FT : Nat → List Nat} {FK : Nat → Nat → Nat × Nat × Int} {EL : Nat → Nat × Nat} {cs : Nat → ClassId} {cc : ByteArray} {pc : Nat} {L : zL} {S : List zV} {h : zH} {SC : String} (hx : p.tables.exec = Jvm.exec) (hb : c.code = cc) (hK : va_K D cl (ztys cs SC) s) {r : Int} {w : Nat} (h0 : 0 ≤ r) (hd : decode cc pc = .ok (.arraylength, 1)) (k : zAW p l e R s m args below meth c Q D cl A H0 n0 s0 ad0 md FT FK EL cs (pc + 1) L (.inl w :: S) h) : zAW p l e R s m args below meth c Q D cl A H0 n0 s0 ad0 md FT FK EL cs pc L (.inr (.inr (r, 100, w)) :: S) h := by
  intro ad H locs ls hSt hL hS hl
  have hr : zRef h r 100 w := zNS_h hS
  have hw := zln60 hSt.1 hr h0
  have hc : (zw FT cs ad h)[r.toNat]? = some (ad r.toNat, .inl (cs 100, w, .inl (fun j => Int32.ofInt (h r j)))) := zcell ad hr h0
  show W p l e R s m args below meth c H locs (zn h - n0) (zsl h - s0) Q (F0 m pc ls (zc ad (.inr (.inr (r, 100, w))) :: S.map (zc ad)))
  rw [zcr h0]
  exact va_alen hx hb hK hSt.2.2.1 r.toNat 0 hc rfl (v := Int32.ofInt w) rfl hd (k ad H locs ls hSt hL (zNS_c (v := .inl w) (by show zI32 w; unfold zI32; omega) (zNS_t hS)) hl)
theorem zs_arraylength103 {p : Program} {l : Launch} {e : Env} {R : Room} {s : State} {m : MethodId} {args : Array Value} {below : List Frame} {meth : Method} {c : Code} {Q : State → Prop} {D : va_G} {cl : List vw_C} {A : Nat → Prop} {H0 : Heap} {n0 s0 : Nat} {ad0 : Nat → Nat} {md : Bool} {FT : Nat → List Nat} {FK : Nat → Nat → Nat × Nat × Int} {EL : Nat → Nat × Nat} {cs : Nat → ClassId} {cc : ByteArray} {pc : Nat} {L : zL} {S : List zV} {h : zH} {SC : String} (hx : p.tables.exec = Jvm.exec) (hb : c.code = cc) (hK : va_K D cl (ztys cs SC) s) {r : Int} {w : Nat} (h0 : 0 ≤ r) (hd : decode cc pc = .ok (.arraylength, 1)) (k : zAW p l e R s m args below meth c Q D cl A H0 n0 s0 ad0 md FT FK EL cs (pc + 1) L (.inl w :: S) h) : zAW p l e R s m args below meth c Q D cl A H0 n0 s0 ad0 md FT FK EL cs pc L (.inr (.inr (r, 103, w)) :: S) h := by
  intro ad H locs ls hSt hL hS hl
  have hr : zRef h r 103 w := zNS_h hS
  have hw := zln60 hSt.1 hr h0
  have hc : (zw FT cs ad h)[r.toNat]? = some (ad r.toNat, .inl (cs 103, w, .inr (.inr (.inr (.inr (fun j => zro ad (h r j))))))) := zcell ad hr h0
  show W p l e R s m args below meth c H locs (zn h - n0) (zsl h - s0) Q (F0 m pc ls (zc ad (.inr (.inr (r, 103, w))) :: S.map (zc ad)))
  rw [zcr h0]
  exact va_alen hx hb hK hSt.2.2.1 r.toNat 3 hc rfl (v := Int32.ofInt w) rfl hd (k ad H locs ls hSt hL (zNS_c (v := .inl w) (by show zI32 w; unfold zI32; omega) (zNS_t hS)) hl)
theorem zs_ifnull {p : Program} {l : Launch} {e : Env} {R : Room} {s : State} {m : MethodId} {args : Array Value} {below : List Frame} {meth : Method} {c : Code} {Q : State → Prop} {D : va_G} {cl : List vw_C} {A : Nat → Prop} {H0 : Heap} {n0 s0 : Nat} {ad0 : Nat → Nat} {md : Bool} {FT : Nat → List Nat} {FK : Nat → Nat → Nat × Nat × Int} {EL : Nat → Nat × Nat} {cs : Nat → ClassId} {cc : ByteArray} {pc : Nat} {L : zL} {S : List zV} {h : zH} {SC : String} (hx : p.tables.exec = Jvm.exec) (hb : c.code = cc) {r off : Int} {kd w t : Nat} (hd : decode cc pc = .ok (.ifnull off, 3)) (ht : (pc : Int) + off = (t : Int)) (kY : r < 0 → zAW p l e R s m args below meth c Q D cl A H0 n0 s0 ad0 md FT FK EL cs t L S h) (kN : ¬ r < 0 → zAW p l e R s m args below meth c Q D cl A H0 n0 s0 ad0 md FT FK EL cs (pc + 3) L S h) : zAW p l e R s m args below meth c Q D cl A H0 n0 s0 ad0 md FT FK EL cs pc L (.inr (.inr (r, kd, w)) :: S) h := by
  intro ad H locs ls hSt hL hS hl
  show W p l e R s m args below meth c H locs (zn h - n0) (zsl h - s0) Q (F0 m pc ls (va_rf (zro ad r) :: S.map (zc ad)))
  unfold zro
  by_cases q : r < 0
  · rw [if_pos q]
    exact lv_ifnullN hx hb hd ht (kY q ad H locs ls hSt hL (zNS_t hS) hl)
  · rw [if_neg q]
    exact lv_ifnull hx hb hd (kN q ad H locs ls hSt hL (zNS_t hS) hl)
theorem zs_ifnonnull {p : Program} {l : Launch} {e : Env} {R : Room} {s : State} {m : MethodId} {args : Array Value} {below : List Frame} {meth : Method} {c : Code} {Q : State → Prop} {D : va_G} {cl : List vw_C} {A : Nat → Prop} {H0 : Heap} {n0 s0 : Nat} {ad0 : Nat → Nat} {md : Bool} {FT : Nat → List Nat} {FK : Nat → Nat → Nat × Nat × Int} {EL : Nat → Nat × Nat} {cs : Nat → ClassId} {cc : ByteArray} {pc : Nat} {L : zL} {S : List zV} {h : zH} {SC : String} (hx : p.tables.exec = Jvm.exec) (hb : c.code = cc) {r off : Int} {kd w t : Nat} (hd : decode cc pc = .ok (.ifnonnull off, 3)) (ht : (pc : Int) + off = (t : Int)) (kY : r < 0 → zAW p l e R s m args below meth c Q D cl A H0 n0 s0 ad0 md FT FK EL cs (pc + 3) L S h) (kN : ¬ r < 0 → zAW p l e R s m args below meth c Q D cl A H0 n0 s0 ad0 md FT FK EL cs t L S h) : zAW p l e R s m args below meth c Q D cl A H0 n0 s0 ad0 md FT FK EL cs pc L (.inr (.inr (r, kd, w)) :: S) h := by
  intro ad H locs ls hSt hL hS hl
  show W p l e R s m args below meth c H locs (zn h - n0) (zsl h - s0) Q (F0 m pc ls (va_rf (zro ad r) :: S.map (zc ad)))
  unfold zro
  by_cases q : r < 0
  · rw [if_pos q]
    exact lv_ifnonnullN hx hb hd (kY q ad H locs ls hSt hL (zNS_t hS) hl)
  · rw [if_neg q]
    exact lv_ifnonnull hx hb hd ht (kN q ad H locs ls hSt hL (zNS_t hS) hl)
theorem zs_lcmp {p : Program} {l : Launch} {e : Env} {R : Room} {s : State} {m : MethodId} {args : Array Value} {below : List Frame} {meth : Method} {c : Code} {Q : State → Prop} {D : va_G} {cl : List vw_C} {A : Nat → Prop} {H0 : Heap} {n0 s0 : Nat} {ad0 : Nat → Nat} {md : Bool} {FT : Nat → List Nat} {FK : Nat → Nat → Nat × Nat × Int} {EL : Nat → Nat × Nat} {cs : Nat → ClassId} {cc : ByteArray} {pc : Nat} {L : zL} {S : List zV} {h : zH} {SC : String} (hx : p.tables.exec = Jvm.exec) (hb : c.code = cc) {a b : Int} (hd : decode cc pc = .ok (.lcmp, 1)) (k : zAW p l e R s m args below meth c Q D cl A H0 n0 s0 ad0 md FT FK EL cs (pc + 1) L (.inl (zlc a b) :: S) h) : zAW p l e R s m args below meth c Q D cl A H0 n0 s0 ad0 md FT FK EL cs pc L (.inr (.inl b) :: .inr (.inl a) :: S) h := by
  intro ad H locs ls hSt hL hS hl
  have hb1 : zI64 b := zNS_h hS
  have ha : zI64 a := zNS_h (zNS_t hS)
  refine W.lcmp hx hb hd ?_
  have e : lg_cmp (Int64.ofInt a) (Int64.ofInt b) = Int32.ofInt (zlc a b) := by
    unfold lg_cmp zlc
    simp only [gt_iff_lt, zl_lt hb1 ha, zl_eq ha hb1]
    by_cases q1 : b < a
    · rw [if_pos q1, if_neg (by omega), if_neg (by omega)]; rfl
    · rw [if_neg q1]
      by_cases q2 : a = b
      · rw [if_pos q2, if_neg (by omega), if_pos q2]; rfl
      · rw [if_neg q2, if_pos (by omega)]; rfl
  rw [e]
  have hz : zI32 (zlc a b) := by
    unfold zI32 zlc
    split
    · omega
    · split <;> omega
  exact k ad H locs ls hSt hL (zNS_c (v := .inl (zlc a b)) hz (zNS_t (zNS_t hS))) hl
