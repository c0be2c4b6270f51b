/-! the making of cells: a new cell makes the map of addresses grow -/
theorem va_RA_inj {U : State} {c1 c2 : ClassId} {ty : FieldType} (h1 : va_RA U c1 ty) (h2 : va_RA U c2 ty) : c1 = c2 := by
  cases ty with
  | object C =>
    obtain ⟨_, _, _, _, _, a⟩ := h1
    obtain ⟨_, _, _, _, _, b⟩ := h2
    exact Option.some.inj (a.symm.trans b)
  | _ => exact Option.some.inj ((show U.vm.findClass ("[" ++ FieldType.toString _) = some c1 from h1).symm.trans h2)
theorem zce_ext {md : Bool} {FT : Nat → List Nat} {FK : Nat → Nat → Nat × Nat × Int} {EL : Nat → Nat × Nat} {cs : Nat → ClassId} {ad ad' : Nat → Nat} {h : zH} (hW : zWF md FT FK EL h) (ha : ∀ k, k < zn h → ad' k = ad k) {k : Nat} (hk : k < zn h) : zce FT cs ad' (zkd h k) (zln h k) (h k) = zce FT cs ad (zkd h k) (zln h k) (h k) := by
  obtain ⟨_, c2, c3⟩ := hW.2.2 k (by unfold zn at hk; omega)
  unfold zce
  by_cases e : zkd h k < 100
  · rw [if_pos e, if_pos e]
    have q : zob FT ad' (zkd h k) (h k) = zob FT ad (zkd h k) (h k) := by
      unfold zob
      apply List.ext_getElem?
      intro j
      rw [List.getElem?_mapIdx, List.getElem?_mapIdx]
      cases ht : (FT (zkd h k))[j]? with
      | none => rfl
      | some ty =>
        simp only [Option.map_some]
        have hf := (c3 e).2 j ty ht
        unfold zfv
        by_cases e1 : ty = 1
        · rw [if_pos e1, if_pos e1]
        · rw [if_neg e1, if_neg e1]
          by_cases e3 : 3 ≤ ty
          · rw [if_pos e3, if_pos e3]
            unfold zrv
            rw [zro_ext ha (hf.2.2.2.1 e3)]
          · rw [if_neg e3, if_neg e3]
    rw [q]
  · rw [if_neg e, if_neg e]
    have q : zaf ad' (zkd h k) (h k) = zaf ad (zkd h k) (h k) := by
      unfold zaf
      by_cases e1 : zkd h k = 101
      · rw [if_pos e1, if_pos e1]
      · rw [if_neg e1, if_neg e1]
        by_cases e3 : zkd h k < 103
        · rw [if_pos e3, if_pos e3]
        · rw [if_neg e3, if_neg e3]
          have q2 : (fun j : Nat => zro ad' (h k j)) = (fun j : Nat => zro ad (h k j)) := funext fun j => zro_ext ha ((c2 (by omega) j (Or.inl (by omega))).2.2.2 (by omega))
          rw [q2]
    rw [q]
theorem zw_app {md : Bool} {FT : Nat → List Nat} {FK : Nat → Nat → Nat × Nat × Int} {EL : Nat → Nat × Nat} {cs : Nat → ClassId} {ad : Nat → Nat} {h h' : zH} {q : Nat} (hW : zWF md FT FK EL h) (hn : zn h' = zn h + 1) (hsame : ∀ k : Nat, k < zn h → zkd h' k = zkd h k ∧ zln h' k = zln h k ∧ h' k = h k) : zw FT cs (fun k => if k = zn h then q else ad k) h' = zw FT cs ad h ++ [(q, zce FT cs (fun k => if k = zn h then q else ad k) (zkd h' (zn h)) (zln h' (zn h)) (h' (zn h)))] := by
  have ha : ∀ k, k < zn h → (fun k => if k = zn h then q else ad k) k = ad k := fun k hk => if_neg (by omega)
  unfold zw
  rw [hn, List.range_succ, List.map_append]
  have h1 : List.map (fun k => ((fun k => if k = zn h then q else ad k) k, zce FT cs (fun k => if k = zn h then q else ad k) (zkd h' k) (zln h' k) (h' k))) (List.range (zn h)) = List.map (fun k => (ad k, zce FT cs ad (zkd h k) (zln h k) (h k))) (List.range (zn h)) := by
    apply List.map_congr_left
    intro k hk
    have hk := List.mem_range.mp hk
    obtain ⟨e1, e2, e3⟩ := hsame k hk
    rw [e1, e2, e3, zce_ext hW ha hk, ha k hk]
  rw [h1]
  congr 1
  show [((if zn h = zn h then q else ad (zn h)), _)] = _
  rw [if_pos rfl]
theorem zWF_app {md : Bool} {FT : Nat → List Nat} {FK : Nat → Nat → Nat × Nat × Int} {EL : Nat → Nat × Nat} {h h' : zH} (hW : zWF md FT FK EL h) (hx : zExt h h') (hn : h' (-1) 0 = h (-1) 0 + 1) (hsame : ∀ k : Nat, (k : Int) < h (-1) 0 → h' (-2) k = h (-2) k ∧ h' (-3) k = h (-3) k ∧ h' k = h k) (hc : zCk md FT FK EL h' (zn h)) : zWF md FT FK EL h' := by
  refine ⟨by have := hW.1; omega, Int.le_trans hW.2.1 hx.2.1, fun k hk => ?_⟩
  by_cases e : (k : Int) < h (-1) 0
  · obtain ⟨c1, c2, c3⟩ := hW.2.2 k e
    obtain ⟨e1, e2, e3⟩ := hsame k e
    have ek : zkd h' k = zkd h k := by unfold zkd; rw [e1]
    refine ⟨by rw [e1, e2]; exact c1, fun a j b => ?_, fun a => ⟨by rw [e2]; rw [ek] at a; exact (c3 a).1, fun j ty ht => ?_⟩⟩
    · rw [ek] at a b ⊢
      rw [e2] at b
      rw [e3]
      obtain ⟨f1, f2, f3, f4⟩ := c2 a j b
      exact ⟨f1, f2, f3, fun z => zRef_ext hx (f4 z)⟩
    · rw [ek] at a ht ⊢
      rw [e3]
      obtain ⟨f1, f2, f3, f4, f5⟩ := (c3 a).2 j ty ht
      exact ⟨f1, f2, f3, fun z => zRef_ext hx (f4 z), f5⟩
  · have q : k = zn h := by unfold zn; omega
    rw [q]; exact hc
theorem znew_n {h : zH} {kd len sl : Int} {df : Int → Int} : znew h kd len sl df (-1) 0 = h (-1) 0 + 1 := by
  unfold znew; rw [if_pos rfl, if_pos rfl]
theorem znew_s {h : zH} {kd len sl : Int} {df : Int → Int} : znew h kd len sl df (-1) 1 = h (-1) 1 + sl := by
  unfold znew; rw [if_pos rfl, if_neg (by decide), if_pos rfl]
theorem znew_k {h : zH} {kd len sl : Int} {df : Int → Int} {b : Int} : znew h kd len sl df (-2) b = if b = h (-1) 0 then kd else h (-2) b := by
  unfold znew; rw [if_neg (by decide), if_pos rfl]
theorem znew_l {h : zH} {kd len sl : Int} {df : Int → Int} {b : Int} : znew h kd len sl df (-3) b = if b = h (-1) 0 then len else h (-3) b := by
  unfold znew; rw [if_neg (by decide), if_neg (by decide), if_pos rfl]
theorem znew_c {h : zH} {kd len sl : Int} {df : Int → Int} {a : Int} (ha : 0 ≤ a) : znew h kd len sl df a = if a = h (-1) 0 then df else h a := by
  unfold znew; rw [if_neg (by omega), if_neg (by omega), if_neg (by omega)]
theorem zSt_grow {D : va_G} {cl : List vw_C} {A : Nat → Prop} {H0 : Heap} {n0 s0 : Nat} {ad0 : Nat → Nat} {md : Bool} {FT : Nat → List Nat} {FK : Nat → Nat → Nat × Nat × Int} {EL : Nat → Nat × Nat} {cs : Nat → ClassId} {h : zH} {H H1 : Heap} {locs locs1 : List Loc} {ad : Nat → Nat} {kd w q ns : Nat} {df : Int → Int} {ce : va_E}
    (hSt : zSt D cl A H0 n0 s0 ad0 md FT FK EL cs ad h H locs) (hc : zCk md FT FK EL (znew h kd w ns df) (zn h)) (he : zce FT cs (fun k => if k = zn h then q else ad k) kd w df = ce)
    (hP : va_P D cl (zw FT cs ad h ++ [(q, ce)]) H1) (hD : va_D A (zw FT cs ad h ++ [(q, ce)])) (hS1 : va_S A H0 H1 locs1) :
    zSt D cl A H0 n0 s0 ad0 md FT FK EL cs (fun k => if k = zn h then q else ad k) (znew h kd w ns df) H1 locs1 ∧ zw FT cs (fun k => if k = zn h then q else ad k) (znew h kd w ns df) = zw FT cs ad h ++ [(q, ce)] ∧ zn (znew h kd w ns df) = zn h + 1 ∧ zsl (znew h kd w ns df) = zsl h + ns ∧ zRef (znew h kd w ns df) (h (-1) 0) kd w ∧ zExt h (znew h kd w ns df) := by
  have hW := hSt.1
  have w1 := hW.1
  have w2 := hW.2.1
  have hx : zExt h (znew h kd w ns df) := zExt_new (by omega)
  have en : zn (znew h kd w ns df) = zn h + 1 := by unfold zn; rw [znew_n]; omega
  have es : zsl (znew h kd w ns df) = zsl h + ns := by unfold zsl; rw [znew_s]; omega
  have enn : ((zn h : Nat) : Int) = h (-1) 0 := by unfold zn; omega
  have same : ∀ k : Nat, (k : Int) < h (-1) 0 → znew h kd w ns df (-2) k = h (-2) k ∧ znew h kd w ns df (-3) k = h (-3) k ∧ znew h kd w ns df k = h k := fun k hk => by
    rw [znew_k, znew_l, znew_c (by omega), if_neg (by omega), if_neg (by omega), if_neg (by omega)]
    exact ⟨rfl, rfl, rfl⟩
  have same2 : ∀ k : Nat, k < zn h → zkd (znew h kd w ns df) k = zkd h k ∧ zln (znew h kd w ns df) k = zln h k ∧ znew h kd w ns df k = h k := fun k hk => by
    obtain ⟨a1, a2, a3⟩ := same k (by omega)
    unfold zkd zln
    rw [a1, a2, a3]
    exact ⟨rfl, rfl, rfl⟩
  have ek : zkd (znew h kd w ns df) (zn h) = kd := by unfold zkd; rw [enn, znew_k, if_pos rfl]; omega
  have el : zln (znew h kd w ns df) (zn h) = w := by unfold zln; rw [enn, znew_l, if_pos rfl]; omega
  have ec : znew h kd w ns df ((zn h : Nat) : Int) = df := by rw [enn, znew_c w1, if_pos rfl]
  have ha : ∀ k, k < zn h → (fun k => if k = zn h then q else ad k) k = ad k := fun k hk => if_neg (by omega)
  have hw := zw_app (cs := cs) (ad := ad) (q := q) hW en same2
  rw [ek, el, ec, he] at hw
  exact ⟨⟨zWF_app hW hx znew_n same hc, ⟨by rw [en]; have := hSt.2.1.1; omega, by rw [es]; have := hSt.2.1.2.1; omega, fun j hj => by rw [ha j (by have := hSt.2.1.1; omega)]; exact hSt.2.1.2.2 j hj⟩, by rw [hw]; exact hP, by rw [hw]; exact hD, hS1⟩, hw, en, es, Or.inr ⟨w1, by rw [znew_n]; omega, by rw [znew_k, if_pos rfl], by rw [znew_l, if_pos rfl]⟩, hx⟩
theorem zgrow {p : Program} {l : Launch} {e : Env} {R : Room} {s : State} {m : MethodId} {args : Array Value} {below : List Frame} {meth : Method} {c : Code} {Q : State → Prop} {D : va_G} {cl : List vw_C} {A : Nat → Prop} {H0 : Heap} {n0 s0 : Nat} {ad0 : Nat → Nat} {md : Bool} {FT : Nat → List Nat} {FK : Nat → Nat → Nat × Nat × Int} {EL : Nat → Nat × Nat} {cs : Nat → ClassId} {pc : Nat} {L : zL} {S : List zV} {h : zH} {H H1 : Heap} {locs locs1 : List Loc} {ls : Array Slot} {ad : Nat → Nat} {kd w q ns : Nat} {df : Int → Int} {ce : va_E}
    (k : zAW p l e R s m args below meth c Q D cl A H0 n0 s0 ad0 md FT FK EL cs pc L (.inr (.inr (h (-1) 0, kd, w)) :: S) (znew h kd w ns df)) (hSt : zSt D cl A H0 n0 s0 ad0 md FT FK EL cs ad h H locs) (hL : zNL h L) (hS : zNS h S) (hl : zLs ad ls L)
    (hc : zCk md FT FK EL (znew h kd w ns df) (zn h)) (he : ∀ ad' : Nat → Nat, zce FT cs ad' kd w df = ce)
    (hP : va_P D cl (zw FT cs ad h ++ [(q, ce)]) H1) (hD : va_D A (zw FT cs ad h ++ [(q, ce)])) (hS1 : va_S A H0 H1 locs1) :
    W p l e R s m args below meth c H1 locs1 (zn h - n0 + 1) (zsl h - s0 + ns) Q (F0 m pc ls (.ref q :: S.map (zc ad))) := by
  obtain ⟨g1, hw, en, es, hr, hx⟩ := zSt_grow (q := q) hSt hc (he _) hP hD hS1
  have w1 := hSt.1.1
  have ha : ∀ k, k < zn h → (fun k => if k = zn h then q else ad k) k = ad k := fun k hk => if_neg (by omega)
  have k2 := k (fun k => if k = zn h then q else ad k) H1 locs1 ls g1 (fun i v hv => zN_ext hx (hL i v hv)) (zNS_c hr (fun v hv => zN_ext hx (hS v hv))) (zLs_ext ha hL hl)
  rw [List.map_cons, zmap_ext ha hS, zcr w1, en, es, show zn h + 1 - n0 = zn h - n0 + 1 by have := hSt.2.1.1; omega, show zsl h + ns - s0 = zsl h - s0 + ns by have := hSt.2.1.2.1; omega] at k2
  have eq : (if (h (-1) 0).toNat = zn h then q else ad (h (-1) 0).toNat) = q := if_pos rfl
  rw [eq] at k2
  exact k2
theorem zCk_arr {md : Bool} {FT : Nat → List Nat} {FK : Nat → Nat → Nat × Nat × Int} {EL : Nat → Nat × Nat} {h : zH} {kd w ns : Nat} {df : Int → Int} (w1 : 0 ≤ h (-1) 0) (hk : 100 ≤ kd) (hw : w < 60000) (hdf : ∀ j, zEo EL (znew h kd w ns df) kd (df j)) : zCk md FT FK EL (znew h kd w ns df) (zn h) := by
  have enn : ((zn h : Nat) : Int) = h (-1) 0 := by unfold zn; omega
  have ek : zkd (znew h kd w ns df) (zn h) = kd := by unfold zkd; rw [enn, znew_k, if_pos rfl]; omega
  have ec : znew h kd w ns df ((zn h : Nat) : Int) = df := by rw [enn, znew_c w1, if_pos rfl]
  refine ⟨?_, fun _ j _ => ?_, fun a => ?_⟩
  · rw [enn, znew_k, znew_l, if_pos rfl, if_pos rfl]; omega
  · rw [ek, ec]; exact hdf j
  · rw [ek] at a; omega
theorem zneg {x : Int} (hx : zI32 x) (h0 : 0 ≤ x) : ¬ Int32.ofInt x < 0 := fun h2 => by rw [← zi_0, zi_lt hx z0_in] at h2; omega

theorem zs_newai {p : Program} {l : Launch} {e : Env} {R : Room} {s : State} {m : MethodId} {args : Array Value} {below : List Frame} {meth : Method} {c : Code} {Q : State → Prop} {D : va_G} {cl : List vw_C} {A : Nat → Prop} {H0 : Heap} {n0 s0 : Nat} {ad0 : Nat → Nat} {md : Bool} {FT : Nat → List Nat} {FK : Nat → Nat → Nat × Nat × Int} {EL : Nat → Nat × Nat} {cs : Nat → ClassId} {cc : ByteArray} {pc : Nat} {L : zL} {S : List zV} {h : zH} {SC : String} (hx : p.tables.exec = Jvm.exec) (hb : c.code = cc) (hK : va_K D cl (ztys cs SC) s) (hA : ∀ q, H0.size ≤ q → A q) (harr : (Cond.arrayClass .int).before args s = true) {w : Nat} (hw : w < 60000) (hR : 0 ≤ h (-1) 1 → zn h + 1 - n0 ≤ R.cells ∧ zsl h + w - s0 ≤ R.slots) (hd : decode cc pc = .ok (.newarray .int, 2)) (k : zAW p l e R s m args below meth c Q D cl A H0 n0 s0 ad0 md FT FK EL cs (pc + 2) L (.inr (.inr (h (-1) 0, 100, w)) :: S) (znew h (100 : Nat) w w (fun _ => 0))) : zAW p l e R s m args below meth c Q D cl A H0 n0 s0 ad0 md FT FK EL cs pc L (.inl (w : Int) :: S) h := by
  intro ad H locs ls hSt hL hS hl
  have hi : zI32 (w : Int) := zNS_h hS
  have q1 := hSt.2.1.1
  have q2 := hSt.2.1.2.1
  have hR := hR hSt.1.2.1
  refine va_newa (atype := .int) (ty := .int) (a0 := (w, .inl (fun _ => 0))) hx hb harr rfl hK hSt.2.2.1 hSt.2.2.2.1 hSt.2.2.2.2 hA (n := Int32.ofInt w) (N' := w) (fun cA => rfl) (zneg hi (by omega)) (by rw [zi_clamp hi]; omega) (by show w * 4 ≤ 536870912; omega) (by have := hR.1; omega) (by have := hR.2; omega) hd fun q cA H1 hK1 hP1 hD1 hS1 => ?_
  have ecA : cA = cs 100 := va_RA_inj (hK1.2 5 (cA, .int) rfl).2 (hK.2 0 (cs 100, .int) rfl).2
  rw [ecA] at hP1 hD1
  exact zgrow k hSt hL (zNS_t hS) hl (zCk_arr hSt.1.1 (by omega) hw (fun j => ⟨fun _ => z0_in, fun _ => zI64_of z0_in, fun _ => Or.inl rfl, fun z => absurd z (by decide)⟩)) (fun ad' => rfl) hP1 hD1 hS1

theorem zs_newal {p : Program} {l : Launch} {e : Env} {R : Room} {s : State} {m : MethodId} {args : Array Value} {below : List Frame} {meth : Method} {c : Code} {Q : State → Prop} {D : va_G} {cl : List vw_C} {A : Nat → Prop} {H0 : Heap} {n0 s0 : Nat} {ad0 : Nat → Nat} {md : Bool} {FT : Nat → List Nat} {FK : Nat → Nat → Nat × Nat × Int} {EL : Nat → Nat × Nat} {cs : Nat → ClassId} {cc : ByteArray} {pc : Nat} {L : zL} {S : List zV} {h : zH} {SC : String} (hx : p.tables.exec = Jvm.exec) (hb : c.code = cc) (hK : va_K D cl (ztys cs SC) s) (hA : ∀ q, H0.size ≤ q → A q) (harr : (Cond.arrayClass .long).before args s = true) {w : Nat} (hw : w < 60000) (hR : 0 ≤ h (-1) 1 → zn h + 1 - n0 ≤ R.cells ∧ zsl h + w - s0 ≤ R.slots) (hd : decode cc pc = .ok (.newarray .long, 2)) (k : zAW p l e R s m args below meth c Q D cl A H0 n0 s0 ad0 md FT FK EL cs (pc + 2) L (.inr (.inr (h (-1) 0, 101, w)) :: S) (znew h (101 : Nat) w w (fun _ => 0))) : zAW p l e R s m args below meth c Q D cl A H0 n0 s0 ad0 md FT FK EL cs pc L (.inl (w : Int) :: S) h := by
  intro ad H locs ls hSt hL hS hl
  have hi : zI32 (w : Int) := zNS_h hS
  have q1 := hSt.2.1.1
  have q2 := hSt.2.1.2.1
  have hR := hR hSt.1.2.1
  refine va_newa (atype := .long) (ty := .long) (a0 := (w, .inr (.inl (fun _ => 0)))) hx hb harr rfl hK hSt.2.2.1 hSt.2.2.2.1 hSt.2.2.2.2 hA (n := Int32.ofInt w) (N' := w) (fun cA => rfl) (zneg hi (by omega)) (by rw [zi_clamp hi]; omega) (by show w * 8 ≤ 536870912; omega) (by have := hR.1; omega) (by have := hR.2; omega) hd fun q cA H1 hK1 hP1 hD1 hS1 => ?_
  have ecA : cA = cs 101 := va_RA_inj (hK1.2 5 (cA, .long) rfl).2 (hK.2 1 (cs 101, .long) rfl).2
  rw [ecA] at hP1 hD1
  exact zgrow k hSt hL (zNS_t hS) hl (zCk_arr hSt.1.1 (by omega) hw (fun j => ⟨fun _ => z0_in, fun _ => zI64_of z0_in, fun _ => Or.inl rfl, fun z => absurd z (by decide)⟩)) (fun ad' => rfl) hP1 hD1 hS1

theorem zs_newaz {p : Program} {l : Launch} {e : Env} {R : Room} {s : State} {m : MethodId} {args : Array Value} {below : List Frame} {meth : Method} {c : Code} {Q : State → Prop} {D : va_G} {cl : List vw_C} {A : Nat → Prop} {H0 : Heap} {n0 s0 : Nat} {ad0 : Nat → Nat} {md : Bool} {FT : Nat → List Nat} {FK : Nat → Nat → Nat × Nat × Int} {EL : Nat → Nat × Nat} {cs : Nat → ClassId} {cc : ByteArray} {pc : Nat} {L : zL} {S : List zV} {h : zH} {SC : String} (hx : p.tables.exec = Jvm.exec) (hb : c.code = cc) (hK : va_K D cl (ztys cs SC) s) (hA : ∀ q, H0.size ≤ q → A q) (harr : (Cond.arrayClass .boolean).before args s = true) {w : Nat} (hw : w < 60000) (hR : 0 ≤ h (-1) 1 → zn h + 1 - n0 ≤ R.cells ∧ zsl h + w - s0 ≤ R.slots) (hd : decode cc pc = .ok (.newarray .boolean, 2)) (k : zAW p l e R s m args below meth c Q D cl A H0 n0 s0 ad0 md FT FK EL cs (pc + 2) L (.inr (.inr (h (-1) 0, 102, w)) :: S) (znew h (102 : Nat) w w (fun _ => 0))) : zAW p l e R s m args below meth c Q D cl A H0 n0 s0 ad0 md FT FK EL cs pc L (.inl (w : Int) :: S) h := by
  intro ad H locs ls hSt hL hS hl
  have hi : zI32 (w : Int) := zNS_h hS
  have q1 := hSt.2.1.1
  have q2 := hSt.2.1.2.1
  have hR := hR hSt.1.2.1
  refine va_newa (atype := .boolean) (ty := .boolean) (a0 := (w, .inl (fun _ => 0))) hx hb harr rfl hK hSt.2.2.1 hSt.2.2.2.1 hSt.2.2.2.2 hA (n := Int32.ofInt w) (N' := w) (fun cA => rfl) (zneg hi (by omega)) (by rw [zi_clamp hi]; omega) (by show w * 1 ≤ 536870912; omega) (by have := hR.1; omega) (by have := hR.2; omega) hd fun q cA H1 hK1 hP1 hD1 hS1 => ?_
  have ecA : cA = cs 102 := va_RA_inj (hK1.2 5 (cA, .boolean) rfl).2 (hK.2 2 (cs 102, .boolean) rfl).2
  rw [ecA] at hP1 hD1
  exact zgrow k hSt hL (zNS_t hS) hl (zCk_arr hSt.1.1 (by omega) hw (fun j => ⟨fun _ => z0_in, fun _ => zI64_of z0_in, fun _ => Or.inl rfl, fun z => absurd z (by decide)⟩)) (fun ad' => rfl) hP1 hD1 hS1

theorem zs_newaq {p : Program} {l : Launch} {e : Env} {R : Room} {s : State} {m : MethodId} {args : Array Value} {below : List Frame} {meth : Method} {c : Code} {Q : State → Prop} {D : va_G} {cl : List vw_C} {A : Nat → Prop} {H0 : Heap} {n0 s0 : Nat} {ad0 : Nat → Nat} {md : Bool} {FT : Nat → List Nat} {FK : Nat → Nat → Nat × Nat × Int} {EL : Nat → Nat × Nat} {cs : Nat → ClassId} {cc : ByteArray} {pc : Nat} {L : zL} {S : List zV} {h : zH} {SC : String} (hx : p.tables.exec = Jvm.exec) (hb : c.code = cc) (hK : va_K D cl (ztys cs SC) s) (hA : ∀ q, H0.size ≤ q → A q) {own : String} {index : Nat} (hown : s.vm.findClass own = some m.cls) (hclink : (Cond.classLink own index SC).before args s = true) (hover : (Cond.arrayOver (.object SC)).before args s = true) {w : Nat} (hw : w < 60000) (hR : 0 ≤ h (-1) 1 → zn h + 1 - n0 ≤ R.cells ∧ zsl h + w - s0 ≤ R.slots) (hd : decode cc pc = .ok (.anewarray index, 3)) (k : zAW p l e R s m args below meth c Q D cl A H0 n0 s0 ad0 md FT FK EL cs (pc + 3) L (.inr (.inr (h (-1) 0, 103, w)) :: S) (znew h (103 : Nat) w w (fun _ => -1))) : zAW p l e R s m args below meth c Q D cl A H0 n0 s0 ad0 md FT FK EL cs pc L (.inl (w : Int) :: S) h := by
  intro ad H locs ls hSt hL hS hl
  have hi : zI32 (w : Int) := zNS_h hS
  have q1 := hSt.2.1.1
  have q2 := hSt.2.1.2.1
  have hR := hR hSt.1.2.1
  refine va_newq hx hb hown hclink (va_AO.of hover) hK hSt.2.2.1 hSt.2.2.2.1 hSt.2.2.2.2 hA (n := Int32.ofInt w) (N' := w) (zneg hi (by omega)) (by rw [zi_clamp hi]; omega) (by omega) (by have := hR.1; omega) (by have := hR.2; omega) hd fun q cA H1 hK1 hP1 hD1 hS1 => ?_
  have ecA : cA = cs 103 := va_RA_inj (hK1.2 5 (cA, .object SC) rfl).2 (hK.2 3 (cs 103, .object SC) rfl).2
  rw [ecA] at hP1 hD1
  exact zgrow k hSt hL (zNS_t hS) hl (zCk_arr hSt.1.1 (by omega) hw (fun j => ⟨fun z => absurd z (by decide), fun z => absurd z (by decide), fun z => absurd z (by decide), fun _ => Or.inl rfl⟩)) (fun ad' => rfl) hP1 hD1 hS1
theorem zob_new {FT : Nat → List Nat} (ad : Nat → Nat) (ci : Nat) : zob FT ad ci (zdf (FT ci)) = (FT ci).map (fun ty => if ty = 1 then Value.long 0 else if 3 ≤ ty then Value.null else Value.int 0) := by
  unfold zob
  apply List.ext_getElem?
  intro j
  rw [List.getElem?_mapIdx, List.getElem?_map]
  cases ht : (FT ci)[j]? with
  | none => rfl
  | some ty =>
    simp only [Option.map_some]
    have hg : (FT ci).getD ((j : Int)).toNat 0 = ty := by rw [Int.toNat_natCast, List.getD_eq_getElem?_getD, ht]; rfl
    unfold zfv zdf
    rw [hg]
    by_cases e1 : ty = 1
    · rw [if_pos e1, if_pos e1, if_neg (by omega)]
      rfl
    · rw [if_neg e1, if_neg e1]
      by_cases e3 : 3 ≤ ty
      · rw [if_pos e3, if_pos e3, if_pos ⟨by omega, e3⟩]
        rfl
      · rw [if_neg e3, if_neg e3, if_neg (by omega)]
        rfl
theorem zs_new {p : Program} {l : Launch} {e : Env} {R : Room} {s : State} {m : MethodId} {args : Array Value} {below : List Frame} {meth : Method} {c : Code} {Q : State → Prop} {D : va_G} {cl : List vw_C} {A : Nat → Prop} {H0 : Heap} {n0 s0 : Nat} {ad0 : Nat → Nat} {FT : Nat → List Nat} {FK : Nat → Nat → Nat × Nat × Int} {EL : Nat → Nat × Nat} {cs : Nat → ClassId} {cc : ByteArray} {pc : Nat} {L : zL} {S : List zV} {h : zH} {SC : String} (hx : p.tables.exec = Jvm.exec) (hb : c.code = cc) (hK : va_K D cl (ztys cs SC) s) (hA : ∀ q, H0.size ≤ q → A q) {Ts : List Cond} (hts : ∀ w ∈ Ts, w.before args s = true) {own : String} (hown : s.vm.findClass own = some m.cls) {ci index : Nat} {C : String} {T : u_T} {N : Nat} {tf : Nat → FieldType} (hcl : zClok Ts cl FT ci C T N tf) (hci : ci < 100) (hlk : Cond.classLink own index C ∈ Ts) (hR : 0 ≤ h (-1) 1 → zn h + 1 - n0 ≤ R.cells ∧ zsl h + N - s0 ≤ R.slots) (hd : decode cc pc = .ok (.new index, 3)) (k : zAW p l e R s m args below meth c Q D cl A H0 n0 s0 ad0 false FT FK EL cs (pc + 3) L (.inr (.inr (h (-1) 0, ci, 0)) :: S) (znew h ci (0 : Nat) N (zdf (FT ci)))) : zAW p l e R s m args below meth c Q D cl A H0 n0 s0 ad0 false FT FK EL cs pc L S h := by
  intro ad H locs ls hSt hL hS hl
  have q1 := hSt.2.1.1
  have q2 := hSt.2.1.2.1
  have hR := hR hSt.1.2.1
  obtain ⟨c1, c2, c3, c4, c5, c6, c7, c8⟩ := hcl
  refine va_new hx hb hts c3 tf c4 hown (hts _ hlk) (hts _ c7) (hts _ c8) hK hSt.2.2.1 hSt.2.2.2.1 hSt.2.2.2.2 hA c1 (fs := (FT ci).map (fun ty => if ty = 1 then Value.long 0 else if 3 ≤ ty then Value.null else Value.int 0)) (fun j hj => ?_) (by have := hR.1; omega) (by have := hR.2; omega) hd fun q H1 hP1 hD1 hS1 => ?_
  · have hjl : j < (FT ci).length := by omega
    obtain ⟨ty, ht⟩ : ∃ ty, (FT ci)[j]? = some ty := ⟨_, List.getElem?_eq_getElem hjl⟩
    obtain ⟨t4, -, t0, t1, t2, t3, -, -⟩ := c6 j ty ht
    unfold vp_V
    rw [List.getD_eq_getElem?_getD, List.getElem?_map, ht]
    simp only [Option.map_some, Option.getD_some]
    rcases (show ty = 0 ∨ ty = 1 ∨ ty = 2 ∨ 3 ≤ ty by omega) with e | e | e | e
    · rw [t0 e, e]; rfl
    · rw [t1 e, e]; rfl
    · rw [t2 e, e]; rfl
    · rw [if_neg (by omega), if_pos e]
      rcases t3 e with ⟨n, z⟩ | ⟨t, z⟩ <;> (rw [z]; rfl)
  · refine zgrow k hSt hL hS hl ?_ (fun ad' => ?_) hP1 hD1 hS1
    · have w1 := hSt.1.1
      have enn : ((zn h : Nat) : Int) = h (-1) 0 := by unfold zn; omega
      have ek : zkd (znew h ci (0 : Nat) N (zdf (FT ci))) (zn h) = ci := by unfold zkd; rw [enn, znew_k, if_pos rfl]; omega
      have ec : znew h ci (0 : Nat) N (zdf (FT ci)) ((zn h : Nat) : Int) = zdf (FT ci) := by rw [enn, znew_c w1, if_pos rfl]
      refine ⟨?_, fun a => ?_, fun _ => ⟨?_, fun j ty ht => ?_⟩⟩
      · rw [enn, znew_k, znew_l, if_pos rfl, if_pos rfl]; omega
      · rw [ek] at a; omega
      · rw [enn, znew_l, if_pos rfl]; rfl
      · rw [ek] at ht
        rw [ec]
        have hg : (FT ci).getD ((j : Int)).toNat 0 = ty := by rw [Int.toNat_natCast, List.getD_eq_getElem?_getD, ht]; rfl
        unfold zdf
        rw [hg]
        by_cases e3 : 3 ≤ ty
        · rw [if_pos ⟨by omega, e3⟩]
          exact ⟨fun z => by omega, fun z => by omega, fun z => by omega, fun _ => Or.inl rfl, fun _ z => by cases z⟩
        · rw [if_neg (by omega)]
          exact ⟨fun _ => z0_in, fun _ => zI64_of z0_in, fun _ => Or.inl rfl, fun z => absurd z e3, fun _ z => by cases z⟩
    · unfold zce
      rw [if_pos hci, zob_new]

theorem zs_aastq {p : Program} {l : Launch} {e : Env} {R : Room} {s : State} {m : MethodId} {args : Array Value} {below : List Frame} {meth : Method} {c : Code} {Q : State → Prop} {D : va_G} {cl : List vw_C} {A : Nat → Prop} {H0 : Heap} {n0 s0 : Nat} {ad0 : Nat → Nat} {md : Bool} {FT : Nat → List Nat} {FK : Nat → Nat → Nat × Nat × Int} {EL : Nat → Nat × Nat} {cs : Nat → ClassId} {cc : ByteArray} {pc : Nat} {L : zL} {S : List zV} {h : zH} {SC : String} (hx : p.tables.exec = Jvm.exec) (hb : c.code = cc) (hK : va_K D cl (ztys cs SC) s) {ci : Nat} {T : u_T} {N : Nat} (hEL : EL 103 = (ci, 0)) (hci : ci < 100) (hcl : cl[ci]? = some (SC, T, N)) {r i v : Int} {w : Nat} (h0 : 0 ≤ r) (hv : 0 ≤ v) (h1 : 0 ≤ i) (h2 : i < w) (hd : decode cc pc = .ok (.aastore, 1)) (k : zAW p l e R s m args below meth c Q D cl A H0 n0 s0 ad0 md FT FK EL cs (pc + 1) L S (zset h r i v)) : zAW p l e R s m args below meth c Q D cl A H0 n0 s0 ad0 md FT FK EL cs pc L (.inr (.inr (v, ci, 0)) :: .inl i :: .inr (.inr (r, 103, w)) :: S) h := by
  intro ad H locs ls hSt hL hS hl
  have hvr : zRef h v ci 0 := zNS_h hS
  have hi : zI32 i := zNS_h (zNS_t hS)
  have hr : zRef h r 103 w := zNS_h (zNS_t (zNS_t hS))
  obtain ⟨e1, e2, e3⟩ := zRef_kd hr h0
  have hc : (zw FT cs ad h)[r.toNat]? = some (ad r.toNat, .inl (cs 103, w, .inr (.inr (.inr (.inr (fun j => zro ad (h r j))))))) := zcell ad hr h0
  have hcv : (zw FT cs ad h)[v.toNat]? = some (ad v.toNat, .inr (ci, zob FT ad ci (h v))) := by
    rw [zcell ad hvr hv]; unfold zce; rw [if_pos hci]
  show W p l e R s m args below meth c H locs (zn h - n0) (zsl h - s0) Q (F0 m pc ls (zc ad (.inr (.inr (v, ci, 0))) :: .int (Int32.ofInt i) :: zc ad (.inr (.inr (r, 103, w))) :: S.map (zc ad)))
  rw [zcr h0, zcr hv]
  refine va_astq (r := (SC, T, N)) hx hb hK hSt.2.2.1 hSt.2.2.2.1 hSt.2.2.2.2 r.toNat 3 v.toNat ci hc rfl hcv hcl (zi_in hi h1 h2) hd fun H1 locs1 hP1 hD1 hS1 => ?_
  refine zput k hSt h0 (zWF_arr hSt.1 h0 (by omega) (by rw [e1]; exact ⟨fun q => by omega, fun q => by omega, fun q => by omega, fun _ => by rw [hEL]; exact hvr⟩)) hL (zNS_t (zNS_t (zNS_t hS))) hl ?_ hP1 hD1 hS1
  rw [e1, e2]
  show (.inl (cs 103, w, .inr (.inr (.inr (.inr (fun j : Nat => zro ad (zset h r i v r j)))))) : va_E) = .inl (cs 103, w, .inr (.inr (.inr (.inr (va_up (fun j : Nat => zro ad (h r j)) (Int32.ofInt i).toNatClampNeg (some (ad v.toNat)))))))
  have q : (fun j : Nat => zro ad (zset h r i v r j)) = va_up (fun j : Nat => zro ad (h r j)) (Int32.ofInt i).toNatClampNeg (some (ad v.toNat)) := by
    funext j
    rw [zi_clamp hi, zset_g]
    by_cases e : j = i.toNat
    · subst e
      rw [if_pos (by omega)]
      unfold zro
      rw [if_neg (by omega)]
      simp [va_up]
    · rw [if_neg (by omega)]
      simp [va_up, e]
  rw [q]
theorem zs_objI {p : Program} {l : Launch} {e : Env} {R : Room} {s : State} {m : MethodId} {args : Array Value} {below : List Frame} {meth : Method} {c : Code} {Q : State → Prop} {D : va_G} {cl : List vw_C} {A : Nat → Prop} {H0 : Heap} {n0 s0 : Nat} {ad0 : Nat → Nat} {md : Bool} {FT : Nat → List Nat} {FK : Nat → Nat → Nat × Nat × Int} {EL : Nat → Nat × Nat} {cs : Nat → ClassId} {cc : ByteArray} {pc : Nat} {L : zL} {S : List zV} {h : zH} {SC : String} (hx : p.tables.exec = Jvm.exec) (hb : c.code = cc) {Ts : List Cond} (hts : ∀ w ∈ Ts, w.before args s = true) {own : String} (hown : s.vm.findClass own = some m.cls) (hml : c.maxLocals = L.length) {idx : Nat} (hlk : Cond.methodLink own idx objectInit ∈ Ts) (hin : Cond.instanceMethod objectInit ∈ Ts) (hco : Cond.code objectInit ⟨#[0xb1]⟩ 1 none ∈ Ts) {r : Int} {kd w : Nat} (h0 : 0 ≤ r) (hcat : zcat S ≤ 8) (hR : 1 ≤ R.frames ∧ 64 ≤ R.locals) (hd : decode cc pc = .ok (.invokespecial idx, 3)) (k : zAW p l e R s m args below meth c Q D cl A H0 n0 s0 ad0 md FT FK EL cs (pc + 3) L S h) : zAW p l e R s m args below meth c Q D cl A H0 n0 s0 ad0 md FT FK EL cs pc L (.inr (.inr (r, kd, w)) :: S) h := by
  intro ad H locs ls hSt hL hS hl
  show W p l e R s m args below meth c H locs (zn h - n0) (zsl h - s0) Q (F0 m pc ls (zc ad (.inr (.inr (r, kd, w))) :: S.map (zc ad)))
  rw [zcr h0]
  have hcat2 : 2 * (F0 m pc ls (.ref (ad r.toNat) :: S.map (zc ad))).monitorRoom + ((S.map (zc ad)).map fun v => v.category).sum ≤ 8 := lv_room (by rw [zcat_sum]; exact hcat)
  exact W.objInit hx hb hown (hts _ hlk) (hts _ hin) (hts _ hco) rfl (by rw [hml]; exact hl.1) rfl hd hR.1 (by have := hR.2; omega) (k ad H locs ls hSt hL (zNS_t hS) hl)

