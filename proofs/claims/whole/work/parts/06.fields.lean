/-- what a field's kind says of its type, its final flag, its class -/
def zTyok (q : String × String × String × Bool) (ty : Nat) (tf : FieldType) (C : String) : Prop :=
  ty ≤ 4 ∧ q.1 = C ∧ (ty = 0 → tf = .int) ∧ (ty = 1 → tf = .long) ∧ (ty = 2 → tf = .boolean) ∧ (3 ≤ ty → (∃ n, tf = .object n) ∨ ∃ t, tf = .array t) ∧ (ty ≠ 4 → q.2.2.2 = false) ∧ (ty = 4 → q.2.2.2 = true)
def zClok (Ts : List Cond) (cl : List vw_C) (FT : Nat → List Nat) (ci : Nat) (C : String) (T : u_T) (N : Nat) (tf : Nat → FieldType) : Prop :=
  cl[ci]? = some (C, T, N) ∧ (FT ci).length = N ∧ (∀ w ∈ u_ws C T N, w ∈ Ts) ∧ (∀ k, k < N → parseFieldDescriptor (T k).2.2.1 = some (tf k)) ∧ (∀ a, a < N → ∀ b, b < N → a ≠ b → (T a).2.1 ≠ (T b).2.1) ∧
  (∀ k ty, (FT ci)[k]? = some ty → zTyok (T k) ty (tf k) C) ∧ Cond.instantiable C N ∈ Ts ∧ Cond.initialized C ∈ Ts
theorem zfit {q : String × String × String × Bool} {ty : Nat} {tf : FieldType} {C : String} (ht : zTyok q ty tf C) (ad : Nat → Nat) {md : Bool} {h : zH} {k : Nat} {u : Nat × Nat × Int} {x : Int} (hx : zFo md h k ty u x) : narrow tf (zfv ad ty x) = zfv ad ty x ∧ fits tf (zfv ad ty x) = true := by
  obtain ⟨t4, -, t0, t1, t2, t3, -, -⟩ := ht
  rcases (show ty = 0 ∨ ty = 1 ∨ ty = 2 ∨ 3 ≤ ty by omega) with e | e | e | e
  · rw [t0 e, e]; exact ⟨rfl, rfl⟩
  · rw [t1 e, e]; exact ⟨rfl, rfl⟩
  · rw [t2 e, e]
    rcases hx.2.2.1 e with q | q <;> (rw [q]; exact ⟨rfl, rfl⟩)
  · have hv : zfv ad ty x = va_rf (zro ad x) := by unfold zfv; rw [if_neg (by omega), if_pos e]; rfl
    rw [hv]
    rcases t3 e with ⟨n, q⟩ | ⟨t, q⟩ <;> (rw [q]; cases zro ad x <;> exact ⟨rfl, rfl⟩)
theorem zob_get {FT : Nat → List Nat} (ad : Nat → Nat) {ci j ty : Nat} (f : Int → Int) (ht : (FT ci)[j]? = some ty) : (zob FT ad ci f)[j]? = some (zfv ad ty (f j)) := by
  unfold zob; rw [List.getElem?_mapIdx, ht]; rfl
theorem zob_set {FT : Nat → List Nat} (ad : Nat → Nat) {ci j ty : Nat} {h : zH} {r x : Int} (ht : (FT ci)[j]? = some ty) : zob FT ad ci (zset h r j x r) = (zob FT ad ci (h r)).set j (zfv ad ty x) := by
  apply List.ext_getElem?
  intro k
  rw [List.getElem?_set]
  unfold zob
  rw [List.getElem?_mapIdx, List.getElem?_mapIdx, List.length_mapIdx]
  by_cases e : j = k
  · subst e
    have hlt : j < (FT ci).length := (List.getElem?_eq_some_iff.mp ht).1
    rw [if_pos rfl, if_pos hlt, ht]
    simp only [Option.map_some]
    rw [zset_g, if_pos rfl]
  · rw [if_neg e]
    cases (FT ci)[k]? with
    | none => rfl
    | some t => simp only [Option.map_some]; rw [zset_g, if_neg (by omega)]
theorem zob_len {FT : Nat → List Nat} (ad : Nat → Nat) (ci : Nat) (f : Int → Int) : (zob FT ad ci f).length = (FT ci).length := by simp [zob]
theorem zs_getf {p : Program} {l : Launch} {e : Env} {R : Room} {s : State} {m : MethodId} {args : Array Value} {below : List Frame} {meth : Method} {c : Code} {Q : State → Prop} {D : va_G} {cl : List vw_C} {A : Nat → Prop} {H0 : Heap} {n0 s0 : Nat} {ad0 : Nat → Nat} {md : Bool} {FT : Nat → List Nat} {FK : Nat → Nat → Nat × Nat × Int} {EL : Nat → Nat × Nat} {cs : Nat → ClassId} {cc : ByteArray} {pc : Nat} {L : zL} {S : List zV} {h : zH} {SC : String} (hx : p.tables.exec = Jvm.exec) (hb : c.code = cc) (hK : va_K D cl (ztys cs SC) s) {Ts : List Cond} (hts : ∀ w ∈ Ts, w.before args s = true) {own : String} (hown : s.vm.findClass own = some m.cls) {ci j ty idx : Nat} {C : String} {T : u_T} {N : Nat} {tf : Nat → FieldType} (hcl : zClok Ts cl FT ci C T N tf) (hci : ci < 100) (hlk : Cond.fieldLink own idx (T j).1 (T j).2.1 (T j).2.2.1 ∈ Ts) (hty : (FT ci)[j]? = some ty) {r : Int} {w : Nat} (h0 : 0 ≤ r) (hd : decode cc pc = .ok (.getfield idx, 3)) {v : zV} (hv : ∀ ad, zWF md FT FK EL h → zRef h r ci w → zc ad v = zfv ad ty (h r j)) (hn : zWF md FT FK EL h → zRef h r ci w → zN h v) (k : zAW p l e R s m args below meth c Q D cl A H0 n0 s0 ad0 md FT FK EL cs (pc + 3) L (v :: S) h) : zAW p l e R s m args below meth c Q D cl A H0 n0 s0 ad0 md FT FK EL cs pc L (.inr (.inr (r, ci, w)) :: S) h := by
  intro ad H locs ls hSt hL hS hl
  have hr : zRef h r ci w := zNS_h hS
  obtain ⟨c1, c2, c3, c4, c5, c6, -, -⟩ := hcl
  have hN : j < N := by rw [← c2]; exact (List.getElem?_eq_some_iff.mp hty).1
  have hc : (zw FT cs ad h)[r.toNat]? = some (ad r.toNat, .inr (ci, zob FT ad ci (h r))) := by
    rw [zcell ad hr h0]; unfold zce; rw [if_pos hci]
  show W p l e R s m args below meth c H locs (zn h - n0) (zsl h - s0) Q (F0 m pc ls (zc ad (.inr (.inr (r, ci, w))) :: S.map (zc ad)))
  rw [zcr h0]
  have k2 := k ad H locs ls hSt hL (zNS_c (hn hSt.1 hr) (zNS_t hS)) hl
  rw [List.map_cons, hv ad hSt.1 hr] at k2
  exact va_get hx hb hts c3 hown hK hSt.2.2.1 r.toNat hc c1 j hN (hts _ hlk) (fun x q => q) (zob_get ad (h r) hty) hd k2
theorem zs_putf {p : Program} {l : Launch} {e : Env} {R : Room} {s : State} {m : MethodId} {args : Array Value} {below : List Frame} {meth : Method} {c : Code} {Q : State → Prop} {D : va_G} {cl : List vw_C} {A : Nat → Prop} {H0 : Heap} {n0 s0 : Nat} {ad0 : Nat → Nat} {md : Bool} {FT : Nat → List Nat} {FK : Nat → Nat → Nat × Nat × Int} {EL : Nat → Nat × Nat} {cs : Nat → ClassId} {cc : ByteArray} {pc : Nat} {L : zL} {S : List zV} {h : zH} {SC : String} (hx : p.tables.exec = Jvm.exec) (hb : c.code = cc) (hK : va_K D cl (ztys cs SC) s) {Ts : List Cond} (hts : ∀ w ∈ Ts, w.before args s = true) {own : String} (hown : s.vm.findClass own = some m.cls) {ci j ty idx : Nat} {C : String} {T : u_T} {N : Nat} {tf : Nat → FieldType} (hcl : zClok Ts cl FT ci C T N tf) (hci : ci < 100) (hlk : Cond.fieldLink own idx (T j).1 (T j).2.1 (T j).2.2.1 ∈ Ts) (hty : (FT ci)[j]? = some ty) (hne : ty ≠ 4) {r x : Int} {w : Nat} (h0 : 0 ≤ r) (hd : decode cc pc = .ok (.putfield idx, 3)) {v : zV} (hv : ∀ ad, zc ad v = zfv ad ty x) (hn : zN h v → zFo md h r.toNat ty (FK ci j) x) (k : zAW p l e R s m args below meth c Q D cl A H0 n0 s0 ad0 md FT FK EL cs (pc + 3) L S (zset h r j x)) : zAW p l e R s m args below meth c Q D cl A H0 n0 s0 ad0 md FT FK EL cs pc L (v :: .inr (.inr (r, ci, w)) :: S) h := by
  intro ad H locs ls hSt hL hS hl
  have hr : zRef h r ci w := zNS_h (zNS_t hS)
  have hfo := hn (zNS_h hS)
  obtain ⟨c1, c2, c3, c4, c5, c6, -, -⟩ := hcl
  obtain ⟨e1, e2, e3⟩ := zRef_kd hr h0
  have hN : j < N := by rw [← c2]; exact (List.getElem?_eq_some_iff.mp hty).1
  have hc : (zw FT cs ad h)[r.toNat]? = some (ad r.toNat, .inr (ci, zob FT ad ci (h r))) := by
    rw [zcell ad hr h0]; unfold zce; rw [if_pos hci]
  show W p l e R s m args below meth c H locs (zn h - n0) (zsl h - s0) Q (F0 m pc ls (zc ad v :: zc ad (.inr (.inr (r, ci, w))) :: S.map (zc ad)))
  rw [zcr h0, hv ad]
  obtain ⟨f1, f2⟩ := zfit (c6 j ty hty) ad hfo
  refine va_put hx hb hts c3 tf c4 c5 hown hK hSt.2.2.1 hSt.2.2.2.1 hSt.2.2.2.2 r.toNat hc c1 j hN (hts _ hlk) (fun x q => q) ((c6 j ty hty).2.2.2.2.2.2.1 hne) (c4 j hN) f1 f2 (by rw [zob_len, c2]; exact hN) hd fun H1 locs1 hP1 hD1 hS1 => ?_
  refine zput k hSt h0 (zWF_fld hSt.1 h0 (by omega) (fun ty2 h2 => ?_)) hL (zNS_t (zNS_t hS)) hl ?_ hP1 hD1 hS1
  · rw [e1] at h2 ⊢
    cases hty.symm.trans h2
    exact hfo
  · rw [e1]; unfold zce; rw [if_pos hci, zob_set ad hty]
theorem zs_putfF {p : Program} {l : Launch} {e : Env} {R : Room} {s : State} {m : MethodId} {args : Array Value} {below : List Frame} {meth : Method} {c : Code} {Q : State → Prop} {D : va_G} {cl : List vw_C} {A : Nat → Prop} {H0 : Heap} {n0 s0 : Nat} {ad0 : Nat → Nat} {md : Bool} {FT : Nat → List Nat} {FK : Nat → Nat → Nat × Nat × Int} {EL : Nat → Nat × Nat} {cs : Nat → ClassId} {cc : ByteArray} {pc : Nat} {L : zL} {S : List zV} {h : zH} {SC : String} (hx : p.tables.exec = Jvm.exec) (hb : c.code = cc) (hK : va_K D cl (ztys cs SC) s) {Ts : List Cond} (hts : ∀ w ∈ Ts, w.before args s = true) {own : String} (hown : s.vm.findClass own = some m.cls) {ci j ty idx : Nat} {C : String} {T : u_T} {N : Nat} {tf : Nat → FieldType} (hcl : zClok Ts cl FT ci C T N tf) (hci : ci < 100) (hlk : Cond.fieldLink own idx (T j).1 (T j).2.1 (T j).2.2.1 ∈ Ts) (hty : (FT ci)[j]? = some ty) (hne : ty = 4) (hin0 : meth.name = "<init>") (hdec : own = C) {r x : Int} {w : Nat} (h0 : 0 ≤ r) (hd : decode cc pc = .ok (.putfield idx, 3)) {v : zV} (hv : ∀ ad, zc ad v = zfv ad ty x) (hn : zN h v → zFo md h r.toNat ty (FK ci j) x) (k : zAW p l e R s m args below meth c Q D cl A H0 n0 s0 ad0 md FT FK EL cs (pc + 3) L S (zset h r j x)) : zAW p l e R s m args below meth c Q D cl A H0 n0 s0 ad0 md FT FK EL cs pc L (v :: .inr (.inr (r, ci, w)) :: S) h := by
  intro ad H locs ls hSt hL hS hl
  have hr : zRef h r ci w := zNS_h (zNS_t hS)
  have hfo := hn (zNS_h hS)
  obtain ⟨c1, c2, c3, c4, c5, c6, -, -⟩ := hcl
  obtain ⟨e1, e2, e3⟩ := zRef_kd hr h0
  have hN : j < N := by rw [← c2]; exact (List.getElem?_eq_some_iff.mp hty).1
  have hc : (zw FT cs ad h)[r.toNat]? = some (ad r.toNat, .inr (ci, zob FT ad ci (h r))) := by
    rw [zcell ad hr h0]; unfold zce; rw [if_pos hci]
  show W p l e R s m args below meth c H locs (zn h - n0) (zsl h - s0) Q (F0 m pc ls (zc ad v :: zc ad (.inr (.inr (r, ci, w))) :: S.map (zc ad)))
  rw [zcr h0, hv ad]
  obtain ⟨f1, f2⟩ := zfit (c6 j ty hty) ad hfo
  refine va_putF hx hb hts c3 tf c4 c5 hown hK hSt.2.2.1 hSt.2.2.2.1 hSt.2.2.2.2 r.toNat hc c1 j hN (hts _ hlk) (fun x q => q) ((c6 j ty hty).2.2.2.2.2.2.2 hne) hin0 ((c6 j ty hty).2.1.trans hdec.symm) (c4 j hN) f1 f2 (by rw [zob_len, c2]; exact hN) hd fun H1 locs1 hP1 hD1 hS1 => ?_
  refine zput k hSt h0 (zWF_fld hSt.1 h0 (by omega) (fun ty2 h2 => ?_)) hL (zNS_t (zNS_t hS)) hl ?_ hP1 hD1 hS1
  · rw [e1] at h2 ⊢
    cases hty.symm.trans h2
    exact hfo
  · rw [e1]; unfold zce; rw [if_pos hci, zob_set ad hty]
theorem zsw_table {pc : Nat} {offs : Array Int} {lo : Int} {x d : Int} {ts : List Int} {kj : Nat → zR} {res : zV × zH} (hz : zsw kj x d ts = some res) : ∀ i : Nat, ts = ((offs.toList.drop i).mapIdx (fun k o => [lo + i + k, (pc : Int) + o])).flatten → (lo + i ≤ x ∧ x < lo + offs.size → ∃ o, offs[(x - lo).toNat]? = some o ∧ kj ((pc : Int) + o).toNat = some res) ∧ (¬ (lo + i ≤ x ∧ x < lo + offs.size) → kj d.toNat = some res) := by
  induction hn : ts.length using Nat.strongRecOn generalizing ts with
  | _ n ih =>
    intro i e
    cases hdr : offs.toList.drop i with
    | nil =>
      rw [hdr] at e
      have e0 : ts = [] := by rw [e]; rfl
      subst e0
      have hlen : offs.size ≤ i := by simpa using hdr
      exact ⟨fun hq => absurd hq (by omega), fun _ => hz⟩
    | cons o r =>
      have hi : i < offs.size := by
        apply Nat.lt_of_not_le
        intro hle
        rw [List.drop_eq_nil_of_le (by simpa using hle)] at hdr
        cases hdr
      have hoi : offs[i]? = some o := by
        have h1 : (offs.toList.drop i)[0]? = some o := by rw [hdr]; rfl
        rw [List.getElem?_drop] at h1
        simpa using h1
      have hdr2 : offs.toList.drop (i + 1) = r := by
        have h1 : (offs.toList.drop i).drop 1 = r := by rw [hdr]; rfl
        rwa [List.drop_drop] at h1
      rw [hdr, List.mapIdx_cons, List.flatten_cons] at e
      subst e
      simp only [List.cons_append, List.nil_append] at hz
      rw [zsw] at hz
      by_cases hx : x = lo + i + (0 : Nat)
      · rw [if_pos hx] at hz
        refine ⟨fun _ => ⟨o, ?_, hz⟩, fun hq => absurd ⟨by omega, by omega⟩ hq⟩
        rw [show (x - lo).toNat = i by omega]; exact hoi
      · rw [if_neg hx] at hz
        have := ih _ (by rw [← hn]; simp only [List.length_append, List.length_cons, List.length_nil]; omega) hz rfl (i + 1) (by
          rw [hdr2]
          congr 1
          apply List.ext_getElem?
          intro k
          rw [List.getElem?_mapIdx, List.getElem?_mapIdx]
          cases r[k]? with
          | none => rfl
          | some z => simp only [Option.map_some, Function.comp]; congr 2; push_cast; omega)
        exact ⟨fun hq => this.1 ⟨by push_cast; omega, hq.2⟩, fun hq => this.2 (fun hq2 => hq ⟨by have := hq2.1; push_cast at this; omega, hq2.2⟩)⟩
