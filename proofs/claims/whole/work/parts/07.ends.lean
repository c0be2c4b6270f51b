/-! a whole array written anew -/
def zup (h : zH) (r : Int) (f : Int → Int) : zH := fun a => if a = r then f else h a
theorem zcpy_up (h : zH) (dst dp src sp n : Int) : zcpy h dst dp src sp n = zup h dst (fun b => if dp ≤ b ∧ b < dp + n then h src (sp + (b - dp)) else h dst b) := rfl
theorem zup_n {h : zH} {r a : Int} {f : Int → Int} (ha : a ≠ r) : zup h r f a = h a := by unfold zup; rw [if_neg ha]
theorem zup_s {h : zH} {r : Int} {f : Int → Int} : zup h r f r = f := by unfold zup; rw [if_pos rfl]
theorem zw_up {FT : Nat → List Nat} {cs : Nat → ClassId} {ad : Nat → Nat} {h : zH} {r : Int} {f : Int → Int} (hr : 0 ≤ r) : zw FT cs ad (zup h r f) = (zw FT cs ad h).set r.toNat (ad r.toNat, zce FT cs ad (zkd h r.toNat) (zln h r.toNat) f) := by
  have e1 : zn (zup h r f) = zn h := by unfold zn; rw [zup_n (by omega)]
  have e2 : ∀ k, zkd (zup h r f) k = zkd h k := fun k => by unfold zkd; rw [zup_n (by omega)]
  have e3 : ∀ k, zln (zup h r f) k = zln h k := fun k => by unfold zln; rw [zup_n (by omega)]
  apply List.ext_getElem?
  intro k
  rw [List.getElem?_set]
  by_cases hk : k < zn h
  · rw [zw_get (by rw [e1]; exact hk), e2, e3]
    by_cases e : r.toNat = k
    · rw [if_pos e, if_pos (by rw [e]; simpa [zw] using hk), e, show (k : Int) = r by omega, zup_s]
    · rw [if_neg e, zw_get hk, zup_n (by omega)]
  · have h1 : (zw FT cs ad (zup h r f))[k]? = none := by
      rw [List.getElem?_eq_none_iff]; simpa [zw, e1] using hk
    have h2 : (zw FT cs ad h)[k]? = none := by
      rw [List.getElem?_eq_none_iff]; simpa [zw] using hk
    rw [h1, h2]
    by_cases e : r.toNat = k
    · rw [if_pos e, if_neg]; rw [e]; simpa [zw] using hk
    · rw [if_neg e]
theorem zWF_up {md : Bool} {FT : Nat → List Nat} {FK : Nat → Nat → Nat × Nat × Int} {EL : Nat → Nat × Nat} {h : zH} {r : Int} {f : Int → Int} {w : Nat} (hW : zWF md FT FK EL h) (hr : 0 ≤ r) (hz : zRef h r 100 w) (hf : ∀ j : Int, 0 ≤ j → j < (w : Int) → zI32 (f j)) : zWF md FT FK EL (zup h r f) := by
  obtain ⟨r1, r2, r3⟩ := zRef_kd hz hr
  obtain ⟨w1, w2, w3⟩ := hW
  have en : ∀ a : Int, a < 0 → zup h r f a = h a := fun a ha => zup_n (by omega)
  have e2 : ∀ k, zkd (zup h r f) k = zkd h k := fun k => by unfold zkd; rw [en _ (by omega)]
  have eR : ∀ x k n, zRef (zup h r f) x k n ↔ zRef h x k n := fun x k n => by unfold zRef; rw [en _ (by omega), en _ (by omega), en _ (by omega)]
  refine ⟨by rw [en _ (by omega)]; exact w1, by rw [en _ (by omega)]; exact w2, fun k hk => ?_⟩
  rw [en _ (by omega)] at hk
  obtain ⟨c1, c2, c3⟩ := w3 k hk
  refine ⟨by rw [en _ (by omega), en _ (by omega)]; exact c1, fun h1 j jj => ?_, fun h1 => ?_⟩
  · rw [e2] at h1 jj ⊢
    rw [en _ (by omega)] at jj
    unfold zEo
    rw [eR]
    by_cases e : (k : Int) = r
    · have e4 : k = r.toNat := by omega
      have hln : h (-3) (k : Int) = w := by unfold zln at r2; rw [← e4] at r2; omega
      rw [e4, r1] at jj
      have jj2 : 0 ≤ j ∧ j < h (-3) ((r.toNat : Nat) : Int) := jj.resolve_left (by omega)
      rw [← e4] at jj2
      rw [e, zup_s, e4, r1]
      exact ⟨fun _ => hf j jj2.1 (by omega), fun q => by omega, fun q => by omega, fun q => by omega⟩
    · rw [zup_n e]; exact c2 h1 j jj
  · rw [e2] at h1 ⊢
    rw [en _ (by omega)]
    refine ⟨(c3 h1).1, fun j ty hj => ?_⟩
    have hne : (k : Int) ≠ r := fun e => by
      have e4 : k = r.toNat := by omega
      rw [e4, r1] at h1
      omega
    unfold zFo
    rw [eR, zup_n hne]
    exact (c3 h1).2 j ty hj
theorem zN_up {h : zH} {r : Int} {f : Int → Int} (hr : 0 ≤ r) {x : zV} (hx : zN h x) : zN (zup h r f) x := by
  rcases x with a | a | q
  · exact hx
  · exact hx
  · show zRef _ _ _ _
    unfold zRef
    rw [zup_n (by omega), zup_n (by omega), zup_n (by omega)]
    exact hx
theorem zcat_sum (ad : Nat → Nat) : ∀ S : List zV, ((S.map (zc ad)).map fun v => v.category).sum = zcat S
  | [] => rfl
  | .inl a :: S => by
    simp only [List.map_cons, List.sum_cons, zcat_sum ad S]
    show 1 + zcat S = zcat S + 1
    omega
  | .inr (.inl a) :: S => by
    simp only [List.map_cons, List.sum_cons, zcat_sum ad S]
    show 2 + zcat S = zcat S + 2
    omega
  | .inr (.inr q) :: S => by
    simp only [List.map_cons, List.sum_cons, zcat_sum ad S]
    have : (zc ad (.inr (.inr q))).category = 1 := (lv_cat _).resolve_right fun e => by obtain ⟨a, ha⟩ := (zcat_zc ad _).mp e; cases ha
    rw [this]
    show 1 + zcat S = zcat S + 1
    omega
theorem znat5 : nativeFrameWords "java/lang/System" "arraycopy" 5 ≤ 40 := by decide +kernel
theorem zs_copy {p : Program} {l : Launch} {e : Env} {R : Room} {s : State} {m : MethodId} {args : Array Value} {below : List Frame} {meth : Method} {c : Code} {Q : State → Prop} {D : va_G} {cl : List vw_C} {A : Nat → Prop} {H0 : Heap} {n0 s0 : Nat} {ad0 : Nat → Nat} {md : Bool} {FT : Nat → List Nat} {FK : Nat → Nat → Nat × Nat × Int} {EL : Nat → Nat × Nat} {cs : Nat → ClassId} {cc : ByteArray} {pc : Nat} {L : zL} {S : List zV} {h : zH} {SC : String} (hx : p.tables.exec = Jvm.exec) (hb : c.code = cc) (hK : va_K D cl (ztys cs SC) s) {own : String} {idx : Nat} (hml : c.maxLocals = L.length) (hown : s.vm.findClass own = some m.cls) (hlink : (Cond.methodLink own idx arraycopyName).before args s = true) (hnat : (Cond.native arraycopyName).before args s = true) (hstat : (Cond.static arraycopyName).before args s = true) (hini : (Cond.initialized "java/lang/System").before args s = true) {n dp d sp r : Int} {wd w : Nat} (h0 : 0 ≤ r ∧ 0 ≤ d) (hb1 : 0 ≤ sp ∧ 0 ≤ dp ∧ 0 ≤ n ∧ sp + n ≤ w ∧ dp + n ≤ wd) (hcat : zcat S ≤ 8) (hR : 1 ≤ R.frames ∧ 64 ≤ R.locals) (hd : decode cc pc = .ok (.invokestatic idx, 3)) (k : zAW p l e R s m args below meth c Q D cl A H0 n0 s0 ad0 md FT FK EL cs (pc + 3) L S (zcpy h d dp r sp n)) : zAW p l e R s m args below meth c Q D cl A H0 n0 s0 ad0 md FT FK EL cs pc L (.inl n :: .inl dp :: .inr (.inr (d, 100, wd)) :: .inl sp :: .inr (.inr (r, 100, w)) :: S) h := by
  intro ad H locs ls hSt hL hS hl
  have hn : zI32 n := zNS_h hS
  have hdp : zI32 dp := zNS_h (zNS_t hS)
  have hzd : zRef h d 100 wd := zNS_h (zNS_t (zNS_t hS))
  have hsp : zI32 sp := zNS_h (zNS_t (zNS_t (zNS_t hS)))
  have hzr : zRef h r 100 w := zNS_h (zNS_t (zNS_t (zNS_t (zNS_t hS))))
  have hS5 := zNS_t (zNS_t (zNS_t (zNS_t (zNS_t hS))))
  obtain ⟨e1, e2, e3⟩ := zRef_kd hzd h0.2
  obtain ⟨q1, q2, q3, q4, q5⟩ := hb1
  have hc0 : (zw FT cs ad h)[r.toNat]? = some (ad r.toNat, .inl (cs 100, w, .inl (fun j => Int32.ofInt (h r j)))) := zcell ad hzr h0.1
  have hc1 : (zw FT cs ad h)[d.toNat]? = some (ad d.toNat, .inl (cs 100, wd, .inl (fun j => Int32.ofInt (h d j)))) := zcell ad hzd h0.2
  show W p l e R s m args below meth c H locs (zn h - n0) (zsl h - s0) Q (F0 m pc ls (.int (Int32.ofInt n) :: .int (Int32.ofInt dp) :: zc ad (.inr (.inr (d, 100, wd))) :: .int (Int32.ofInt sp) :: zc ad (.inr (.inr (r, 100, w))) :: S.map (zc ad)))
  rw [zcr h0.1, zcr h0.2]
  have hneg : ∀ x : Int, zI32 x → 0 ≤ x → ¬ Int32.ofInt x < 0 := fun x hx h2 => by rw [← zi_0, zi_lt hx z0_in]; omega
  refine va_copyi hx hb (hml.trans hl.1.symm) hown hlink hnat hstat hini hK hSt.2.2.1 hSt.2.2.2.1 hSt.2.2.2.2 r.toNat d.toNat 0 0 hc0 hc1 rfl rfl rfl (hneg _ hsp q1) (hneg _ hdp q2) (hneg _ hn q3) (by rw [zi_clamp hsp, zi_clamp hn]; omega) (by rw [zi_clamp hdp, zi_clamp hn]; omega) (fun _ _ => rfl) hR.1 (by rw [zcat_sum]; have := znat5; omega) hd fun H1 locs1 hP1 hD1 hS1 => ?_
  rw [zi_clamp hsp, zi_clamp hn, zi_clamp hdp] at hP1 hD1
  have he : zce FT cs ad (zkd h d.toNat) (zln h d.toNat) (fun b => if dp ≤ b ∧ b < dp + n then h r (sp + (b - dp)) else h d b) = .inl (cs 100, wd, .inl (va_cpy (fun j : Nat => Int32.ofInt (h r j)) (fun j : Nat => Int32.ofInt (h d j)) sp.toNat dp.toNat n.toNat)) := by
    rw [e1, e2]
    show (.inl (cs 100, wd, .inl (fun j : Nat => Int32.ofInt (if dp ≤ (j : Int) ∧ (j : Int) < dp + n then h r (sp + ((j : Int) - dp)) else h d j))) : va_E) = _
    congr 4
    funext j
    by_cases e : dp ≤ (j : Int) ∧ (j : Int) < dp + n
    · rw [if_pos e, pk_cpy_in (by omega) (by omega)]
      congr 2
      push_cast
      omega
    · rw [if_neg e, pk_cpy_out (by omega)]
  rw [← he, ← zw_up h0.2, ← zcpy_up] at hP1 hD1
  have hWF : zWF md FT FK EL (zcpy h d dp r sp n) := by
    rw [zcpy_up]
    refine zWF_up hSt.1 h0.2 hzd fun j j0 j1 => ?_
    by_cases e : dp ≤ j ∧ j < dp + n
    · simp only [if_pos e]
      exact (zelt hSt.1 hzr h0.1 (by omega) (by omega) (by omega)).1 rfl
    · simp only [if_neg e]
      exact (zelt hSt.1 hzd h0.2 (by omega) j0 j1).1 rfl
  have en1 : zn (zcpy h d dp r sp n) = zn h := by rw [zcpy_up]; unfold zn; rw [zup_n (by omega)]
  have en2 : zsl (zcpy h d dp r sp n) = zsl h := by rw [zcpy_up]; unfold zsl; rw [zup_n (by omega)]
  have k2 := k ad H1 locs1 ls ⟨hWF, by rw [en1, en2]; exact hSt.2.1, hP1, hD1, hS1⟩ (fun i v hv => by rw [zcpy_up]; exact zN_up h0.2 (hL i v hv)) (fun v hv => by rw [zcpy_up]; exact zN_up h0.2 (hS5 v hv)) hl
  rwa [en1, en2] at k2
/-! a method's contract, its end -/
def zroom (d mc ms : Nat) : Room := { frames := d, cells := mc, slots := ms, locals := 128 * d }
def zQc (D : va_G) (cl : List vw_C) (md : Bool) (FT : Nat → List Nat) (FK : Nat → Nat → Nat × Nat × Int) (EL : Nat → Nat × Nat) (cs : Nat → ClassId) (SC : String) (rk : Int) (n0 : Nat) (ad0 : Nat → Nat) (A : Nat → Prop) (res : zV × zH) : Array Value → State → Outcome → State → Prop := fun _ st oc t =>
  (∃ ad : Nat → Nat, oc = .returned (if rk = 2 then none else some (zc ad res.1)) ∧ zWF md FT FK EL res.2 ∧ zN res.2 res.1 ∧ (∀ k, k < n0 → ad k = ad0 k) ∧ va_P D cl (zw FT cs ad res.2) t.heap ∧ va_D A (zw FT cs ad res.2) ∧ va_K D cl (ztys cs SC) t) ∧ va_F A st t
def zQ (below : List Frame) (args : Array Value) (s : State) (D : va_G) (cl : List vw_C) (md : Bool) (FT : Nat → List Nat) (FK : Nat → Nat → Nat × Nat × Int) (EL : Nat → Nat × Nat) (cs : Nat → ClassId) (SC : String) (rk : Int) (n0 s0 : Nat) (ad0 : Nat → Nat) (A : Nat → Prop) (res : zV × zH) : State → Prop :=
  MQ below (zQc D cl md FT FK EL cs SC rk n0 ad0 A res) args s (zn res.2 - n0) (zsl res.2 - s0) A
theorem zend {s : State} {args : Array Value} {D : va_G} {cl : List vw_C} {A : Nat → Prop} {n0 s0 : Nat} {ad0 : Nat → Nat} {md : Bool} {FT : Nat → List Nat} {FK : Nat → Nat → Nat × Nat × Int} {EL : Nat → Nat × Nat} {cs : Nat → ClassId} {h : zH} {SC : String} (hK : va_K D cl (ztys cs SC) s) {ad : Nat → Nat} {H : Heap} {locs : List Loc} {rk : Int} {v : zV} (hSt : zSt D cl A s.heap n0 s0 ad0 md FT FK EL cs ad h H locs) (hv : zN h v) {oc : Outcome} (ho : oc = .returned (if rk = 2 then none else some (zc ad v))) : ∀ t : State, t.heap = H → s.WarmedH t.vm → zQc D cl md FT FK EL cs SC rk n0 ad0 A (v, h) args s oc t := by
  intro t ht hw
  refine ⟨⟨ad, ho, hSt.1, hv, hSt.2.1.2.2, ?_, hSt.2.2.2.1, va_K.moved hw.alike hK⟩, ?_⟩
  · rw [ht]; exact hSt.2.2.1
  · exact hSt.2.2.2.2.F ht
theorem zs_ireturn {p : Program} {l : Launch} {e : Env} {R : Room} {s : State} {m : MethodId} {args : Array Value} {below : List Frame} {meth : Method} {c : Code} {D : va_G} {cl : List vw_C} {A : Nat → Prop} {n0 s0 : Nat} {ad0 : Nat → Nat} {md : Bool} {FT : Nat → List Nat} {FK : Nat → Nat → Nat × Nat × Int} {EL : Nat → Nat × Nat} {cs : Nat → ClassId} {cc : ByteArray} {pc : Nat} {L : zL} {S : List zV} {h : zH} {SC : String} (hx : p.tables.exec = Jvm.exec) (hb : c.code = cc) (hK : va_K D cl (ztys cs SC) s) (hlo : meth.locks = false) {a : Int} (hr : meth.sig.returnType = some .int) (hd : decode cc pc = .ok (.ireturn, 1)) : zAW p l e R s m args below meth c (zQ below args s D cl md FT FK EL cs SC 0 n0 s0 ad0 A (.inl a, h)) D cl A s.heap n0 s0 ad0 md FT FK EL cs pc L [.inl a] h := by
  intro ad H locs ls hSt hL hS hl
  exact W.iret hx hb hr (zend hK hSt (zNS_h hS) rfl) hSt.2.2.2.2.2.2 hd hlo
theorem zs_zreturn {p : Program} {l : Launch} {e : Env} {R : Room} {s : State} {m : MethodId} {args : Array Value} {below : List Frame} {meth : Method} {c : Code} {D : va_G} {cl : List vw_C} {A : Nat → Prop} {n0 s0 : Nat} {ad0 : Nat → Nat} {md : Bool} {FT : Nat → List Nat} {FK : Nat → Nat → Nat × Nat × Int} {EL : Nat → Nat × Nat} {cs : Nat → ClassId} {cc : ByteArray} {pc : Nat} {L : zL} {S : List zV} {h : zH} {SC : String} (hx : p.tables.exec = Jvm.exec) (hb : c.code = cc) (hK : va_K D cl (ztys cs SC) s) (hlo : meth.locks = false) {a : Int} (ha : a = 0 ∨ a = 1) (hr : meth.sig.returnType = some .boolean) (hd : decode cc pc = .ok (.ireturn, 1)) : zAW p l e R s m args below meth c (zQ below args s D cl md FT FK EL cs SC 3 n0 s0 ad0 A (.inl a, h)) D cl A s.heap n0 s0 ad0 md FT FK EL cs pc L [.inl a] h := by
  intro ad H locs ls hSt hL hS hl
  exact W.zret hx hb hr (by rcases ha with q | q <;> (rw [q]; rfl)) (zend hK hSt (zNS_h hS) rfl) hSt.2.2.2.2.2.2 hd hlo
theorem zs_lreturn {p : Program} {l : Launch} {e : Env} {R : Room} {s : State} {m : MethodId} {args : Array Value} {below : List Frame} {meth : Method} {c : Code} {D : va_G} {cl : List vw_C} {A : Nat → Prop} {n0 s0 : Nat} {ad0 : Nat → Nat} {md : Bool} {FT : Nat → List Nat} {FK : Nat → Nat → Nat × Nat × Int} {EL : Nat → Nat × Nat} {cs : Nat → ClassId} {cc : ByteArray} {pc : Nat} {L : zL} {S : List zV} {h : zH} {SC : String} (hx : p.tables.exec = Jvm.exec) (hb : c.code = cc) (hK : va_K D cl (ztys cs SC) s) (hlo : meth.locks = false) {a : Int} (hr : meth.sig.returnType = some .long) (hd : decode cc pc = .ok (.lreturn, 1)) : zAW p l e R s m args below meth c (zQ below args s D cl md FT FK EL cs SC 1 n0 s0 ad0 A (.inr (.inl a), h)) D cl A s.heap n0 s0 ad0 md FT FK EL cs pc L [.inr (.inl a)] h := by
  intro ad H locs ls hSt hL hS hl
  exact W.lret hx hb hr (zend hK hSt (zNS_h hS) rfl) hSt.2.2.2.2.2.2 hd hlo
theorem zs_vreturn {p : Program} {l : Launch} {e : Env} {R : Room} {s : State} {m : MethodId} {args : Array Value} {below : List Frame} {meth : Method} {c : Code} {D : va_G} {cl : List vw_C} {A : Nat → Prop} {n0 s0 : Nat} {ad0 : Nat → Nat} {md : Bool} {FT : Nat → List Nat} {FK : Nat → Nat → Nat × Nat × Int} {EL : Nat → Nat × Nat} {cs : Nat → ClassId} {cc : ByteArray} {pc : Nat} {L : zL} {S : List zV} {h : zH} {SC : String} (hx : p.tables.exec = Jvm.exec) (hb : c.code = cc) (hK : va_K D cl (ztys cs SC) s) (hlo : meth.locks = false) (hr : meth.sig.returnType = none) (hd : decode cc pc = .ok (.return_, 1)) : zAW p l e R s m args below meth c (zQ below args s D cl md FT FK EL cs SC 2 n0 s0 ad0 A (.inl 0, h)) D cl A s.heap n0 s0 ad0 md FT FK EL cs pc L [] h := by
  intro ad H locs ls hSt hL hS hl
  exact W.vret hx hb hr (zend hK hSt (v := .inl 0) z0_in rfl) hSt.2.2.2.2.2.2 hd hlo
