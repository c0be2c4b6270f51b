/-! making both objects in the law -/
theorem zgrowL {p : Program} {l : Launch} {e : Env} {R : Room} {s : State} {m : MethodId} {args : Array Value} {below : List Frame} {meth : Method} {c : Code} {Q : State → Prop} {D : va_G} {cl : List vw_C} {A : Nat → Prop} {H0 : Heap} {n0 s0 : Nat} {ad0 : Nat → Nat} {md : Bool} {FT : Nat → List Nat} {FK : Nat → Nat → Nat × Nat × Int} {EL : Nat → Nat × Nat} {cs : Nat → ClassId} {pc : Nat} {S : List zV} {h : zH} {H H1 : Heap} {locs locs1 : List Loc} {ls : Array Slot} {ad : Nat → Nat} {kd w q ns : Nat} {df : Int → Int} {ce : va_E}
    (k : ∀ ad2 : Nat → Nat, zSt D cl A H0 n0 s0 ad0 md FT FK EL cs ad2 (znew h kd w ns df) H1 locs1 → (∀ j, j < zn h → ad2 j = ad j) → zNS (znew h kd w ns df) (.inr (.inr (h (-1) 0, kd, w)) :: S) → W p l e R s m args below meth c H1 locs1 (zn (znew h kd w ns df) - n0) (zsl (znew h kd w ns df) - s0) Q (F0 m pc ls ((.inr (.inr (h (-1) 0, kd, w)) :: S : List zV).map (zc ad2)))) (hSt : zSt D cl A H0 n0 s0 ad0 md FT FK EL cs ad h H locs) (hS : zNS h S)
    (hc : zCk md FT FK EL (znew h kd w ns df) (zn h)) (he : ∀ ad' : Nat → Nat, zce FT cs ad' kd w df = ce)
    (hP : va_P D cl (zw FT cs ad h ++ [(q, ce)]) H1) (hD : va_D A (zw FT cs ad h ++ [(q, ce)])) (hS1 : va_S A H0 H1 locs1) :
    W p l e R s m args below meth c H1 locs1 (zn h - n0 + 1) (zsl h - s0 + ns) Q (F0 m pc ls (.ref q :: S.map (zc ad))) := by
  obtain ⟨g1, hw, en, es, hr, hx⟩ := zSt_grow (q := q) hSt hc (he _) hP hD hS1
  have w1 := hSt.1.1
  have ha : ∀ k, k < zn h → (fun k => if k = zn h then q else ad k) k = ad k := fun k hk => if_neg (by omega)
  have k2 := k (fun k => if k = zn h then q else ad k) g1 ha (zNS_c hr (fun v hv => zN_ext hx (hS v hv)))
  rw [List.map_cons, zmap_ext ha hS, zcr w1, en, es, show zn h + 1 - n0 = zn h - n0 + 1 by have := hSt.2.1.1; omega, show zsl h + ns - s0 = zsl h - s0 + ns by have := hSt.2.1.2.1; omega] at k2
  have eq : (if (h (-1) 0).toNat = zn h then q else ad (h (-1) 0).toNat) = q := if_pos rfl
  rw [eq] at k2
  exact k2
theorem zs_newL {p : Program} {l : Launch} {e : Env} {R : Room} {s : State} {m : MethodId} {args : Array Value} {below : List Frame} {meth : Method} {c : Code} {Q : State → Prop} {D : va_G} {cl : List vw_C} {A : Nat → Prop} {H0 : Heap} {n0 s0 : Nat} {ad0 : Nat → Nat} {FT : Nat → List Nat} {FK : Nat → Nat → Nat × Nat × Int} {EL : Nat → Nat × Nat} {cs : Nat → ClassId} {cc : ByteArray} {pc : Nat} {S : List zV} {h : zH} {SC : String} (hx : p.tables.exec = Jvm.exec) (hb : c.code = cc) (hK : va_K D cl (ztys cs SC) s) (hA : ∀ q, H0.size ≤ q → A q) {Ts : List Cond} (hts : ∀ w ∈ Ts, w.before args s = true) {own : String} (hown : s.vm.findClass own = some m.cls) {ci index : Nat} {C : String} {T : u_T} {N : Nat} {tf : Nat → FieldType} (hcl : zClok Ts cl FT ci C T N tf) (hci : ci < 100) (hlk : Cond.classLink own index C ∈ Ts) (hR : 0 ≤ h (-1) 1 → zn h + 1 - n0 ≤ R.cells ∧ zsl h + N - s0 ≤ R.slots) (hd : decode cc pc = .ok (.new index, 3)) {ad : Nat → Nat} {H : Heap} {locs : List Loc} {ls : Array Slot} (hSt : zSt D cl A H0 n0 s0 ad0 false FT FK EL cs ad h H locs) (hS : zNS h S) (k : ∀ (ad2 : Nat → Nat) (H1 : Heap) (locs1 : List Loc), zSt D cl A H0 n0 s0 ad0 false FT FK EL cs ad2 (znew h ci (0 : Nat) N (zdf (FT ci))) H1 locs1 → (∀ j, j < zn h → ad2 j = ad j) → zNS (znew h ci (0 : Nat) N (zdf (FT ci))) (.inr (.inr (h (-1) 0, ci, 0)) :: S) → W p l e R s m args below meth c H1 locs1 (zn (znew h ci (0 : Nat) N (zdf (FT ci))) - n0) (zsl (znew h ci (0 : Nat) N (zdf (FT ci))) - s0) Q (F0 m (pc + 3) ls ((.inr (.inr (h (-1) 0, ci, 0)) :: S : List zV).map (zc ad2)))) : W p l e R s m args below meth c H locs (zn h - n0) (zsl h - s0) Q (F0 m pc ls (S.map (zc ad))) := by
  have q1 := hSt.2.1.1
  have q2 := hSt.2.1.2.1
  have hR := hR hSt.1.2.1
  obtain ⟨c1, c2, c3, c4, c5, c6, c7, c8⟩ := hcl
  refine va_new hx hb hts c3 tf c4 hown (hts _ hlk) (hts _ c7) (hts _ c8) hK hSt.2.2.1 hSt.2.2.2.1 hSt.2.2.2.2 hA c1 (fs := (FT ci).map (fun ty => if ty = 1 then Value.long 0 else if 3 ≤ ty then Value.null else Value.int 0)) (fun j hj => ?_) (by have := hR.1; omega) (by have := hR.2; omega) hd fun q H1 hP1 hD1 hS1 => ?_
  · have hjl : j < (FT ci).length := by omega
    obtain ⟨ty, ht⟩ : ∃ ty, (FT ci)[j]? = some ty := ⟨_, List.getElem?_eq_getElem hjl⟩
    obtain ⟨t4, -, t0, t1, t2, t3, -, -⟩ := c6 j ty ht
    unfold vp_V
    rw [List.getD_eq_getElem?_getD, List.getElem?_map, ht]
    simp only [Option.map_some, Option.getD_some]
    rcases (show ty = 0 ∨ ty = 1 ∨ ty = 2 ∨ 3 ≤ ty by omega) with e | e | e | e
    · rw [t0 e, e]; rfl
    · rw [t1 e, e]; rfl
    · rw [t2 e, e]; rfl
    · rw [if_neg (by omega), if_pos e]
      rcases t3 e with ⟨n, z⟩ | ⟨t, z⟩ <;> (rw [z]; rfl)
  · refine zgrowL (fun ad2 => k ad2 _ _) hSt hS ?_ (fun ad' => ?_) hP1 hD1 hS1
    · have w1 := hSt.1.1
      have enn : ((zn h : Nat) : Int) = h (-1) 0 := by unfold zn; omega
      have ek : zkd (znew h ci (0 : Nat) N (zdf (FT ci))) (zn h) = ci := by unfold zkd; rw [enn, znew_k, if_pos rfl]; omega
      have ec : znew h ci (0 : Nat) N (zdf (FT ci)) ((zn h : Nat) : Int) = zdf (FT ci) := by rw [enn, znew_c w1, if_pos rfl]
      refine ⟨?_, fun a => ?_, fun _ => ⟨?_, fun j ty ht => ?_⟩⟩
      · rw [enn, znew_k, znew_l, if_pos rfl, if_pos rfl]; omega
      · rw [ek] at a; omega
      · rw [enn, znew_l, if_pos rfl]; rfl
      · rw [ek] at ht
        rw [ec]
        have hg : (FT ci).getD ((j : Int)).toNat 0 = ty := by rw [Int.toNat_natCast, List.getD_eq_getElem?_getD, ht]; rfl
        unfold zdf
        rw [hg]
        by_cases e3 : 3 ≤ ty
        · rw [if_pos ⟨by omega, e3⟩]
          exact ⟨fun z => by omega, fun z => by omega, fun z => by omega, fun _ => Or.inl rfl, fun _ z => by cases z⟩
        · rw [if_neg (by omega)]
          exact ⟨fun _ => z0_in, fun _ => zI64_of z0_in, fun _ => Or.inl rfl, fun z => absurd z e3, fun _ z => by cases z⟩
    · unfold zce
      rw [if_pos hci, zob_new]
theorem zs_callDL {p : Program} {l : Launch} {e : Env} {R : Room} {s : State} {m : MethodId} {args : Array Value} {below : List Frame} {meth : Method} {c : Code} {Q : State → Prop} {G : va_G} {A : Nat → Prop} {n0 s0 : Nat} {ad0 : Nat → Nat} {cs : Nat → ClassId} {cc : ByteArray} {pc : Nat} {S : List zV} {aK aV : Nat → Nat} {vf : Option Nat} (hx : p.tables.exec = Jvm.exec) (hb : c.code = cc) (hK : va_K G vwCl (ztys cs zSC) s) (hA : ∀ q, s.heap.size ≤ q → A q) (hts : ∀ w ∈ lw_g, w.before args s = true) {own : String} (hown : s.vm.findClass own = some m.cls) {nL : Nat} (hml : c.maxLocals = nL) (hZ : zStr A aK aV vf s s.heap) (hR : vk_R "BoulderDowry$Tokens" 28 sown (aK 0) s) (hAO : va_AO zSC s) (hAA : zAOA s) {idx d : Nat} {M : zMD} {r : Int} {k : Nat} {h h1 : zH} (hM : dMet l aK aV vf d M r k h h1) (hlk : Cond.methodLink own idx M.1 ∈ lw_g) (hin : Cond.instanceMethod M.1 ∈ lw_g) (hnm : M.1.name = "<init>") (hcal : zCal lw_g M.1 M.2.1 M.2.2.1 none 0) (h0 : 0 ≤ r) (hcat : zcat S ≤ 8) (hRm : d + 1 ≤ R.frames ∧ 128 * (d + 1) ≤ R.locals) (hext : zExt h h1) (hf : zn h1 - n0 ≤ R.cells ∧ zsl h1 - s0 ≤ R.slots) (hd : decode cc pc = .ok (.invokespecial idx, 3)) {ad : Nat → Nat} {H : Heap} {locs : List Loc} {ls : Array Slot} (hls : ls.size = nL) (hSt : zSt G vwCl A s.heap n0 s0 ad0 false zFT zFK zEL cs ad h H locs) (hS : zNS h (.inr (.inr (r, k, 0)) :: S)) (kk : ∀ (ad2 : Nat → Nat) (H1 : Heap) (locs1 : List Loc), zSt G vwCl A s.heap n0 s0 ad0 false zFT zFK zEL cs ad2 h1 H1 locs1 → (∀ j, j < zn h → ad2 j = ad j) → zNS h1 S → W p l e R s m args below meth c H1 locs1 (zn h1 - n0) (zsl h1 - s0) Q (F0 m (pc + 3) ls (S.map (zc ad2)))) : W p l e R s m args below meth c H locs (zn h - n0) (zsl h - s0) Q (F0 m pc ls ((.inr (.inr (r, k, 0)) :: S : List zV).map (zc ad))) := by
  have hmono := zn_mono hext
  have q1 := hSt.2.1.1
  have q2 := hSt.2.1.2.1
  have hS0 : zNS h S := zNS_t hS
  have hr : zRef h r k 0 := zNS_h hS
  refine zafterL (SC := zSC) (rk := 2) (res := (.inl 0, h1)) (S := S) (a := ([.ref (ad r.toNat)] : List Value).toArray) hA hSt hS0 hext ?_ (fun ad2 H1 locs1 u1 u2 u3 => by
    have ez : zpush 2 (.inl 0, h1).1 S = S := if_pos rfl
    rw [ez] at u3 ⊢
    exact kk ad2 H1 locs1 u1 u2 u3)
  have hMM := hM hSt.1 hr h0 G cs ad H.size
  have hPK : ∀ U : State, U.heap = H → s.WarmedH U.vm → dPc aK aV vf G cs ad h H.size U := fun U hU hW => ⟨⟨by rw [hU], by rw [hU]; exact hSt.2.2.1, va_K.moved hW.alike hK, hSt.2.2.2.1.weaken (fun _ _ _ _ => trivial)⟩, by rw [hU]; exact ((hZ.kept hSt.2.2.2.2.2.1).moved hW.alike).narrow (zfree hSt hA), vk_R.warm hW hR, va_AO.moved hW.alike hAO, zAOA.moved hW.alike hAA⟩
  have hR2 : (zroom d (zn h1 - zn h) (zsl h1 - zsl h)).frames + 1 ≤ R.frames ∧ 8 + (M.2.2.1 + 11) + (zroom d (zn h1 - zn h) (zsl h1 - zsl h)).locals ≤ R.locals := ⟨hRm.1, by show 8 + (M.2.2.1 + 11) + 128 * d ≤ _; have := hcal.2.2; have := hRm.2; omega⟩
  have hf2 : zn h - n0 + (zn h1 - zn h) ≤ R.cells ∧ zsl h - s0 + (zsl h1 - zsl h) ≤ R.slots := ⟨by have := hf.1; omega, by have := hf.2; omega⟩
  have hcat2 : 2 * (F0 m pc ls ((.inr (.inr (r, k, 0)) :: S : List zV).map (zc ad))).monitorRoom + ((S.map (zc ad)).map fun v => v.category).sum ≤ 8 := lv_room (by rw [zcat_sum]; exact hcat)
  exact va_runI (b := ad r.toNat) (As := []) ⟨hx, hb, hml, hown, hts⟩ hMM ⟨callB_of 0 hts (zgoodIn lw_good hcal.1.1) rfl rfl rfl (hts _ hcal.1.2) (hts _ hlk) hcal.2.1 hR2, hnm, hts _ hin⟩ ⟨dblind, fun U hU hW => ⟨rfl, hPK U hU hW⟩⟩ rfl rfl hls (by rw [show (F0 m pc ls ((.inr (.inr (r, k, 0)) :: S : List zV).map (zc ad))).stack = (.inr (.inr (r, k, 0)) :: S : List zV).map (zc ad) from rfl, List.map_cons, zcr h0]; rfl) hcat2 hd hf2
theorem st_new_eq (D : zD) {ci : Nat} (hc : ci < 13) : tH (D ++ [((ci : Int), 0, (zFT ci).map dfd)]) = znew (tH D) ci (0 : Nat) (zNX ci : Nat) (zdf (zFT ci)) := by
  have eN : (zFT ci).length = zNX ci := (clk_all ci hc).2.1
  rw [tH_app]
  have e2 : dcv ((ci : Int), 0, (zFT ci).map dfd) = zdf (zFT ci) := dcv_obj (ci := ci) (ts := zFT ci) (by omega)
  have e3 : dsl ((ci : Int), 0, (zFT ci).map dfd) = (zNX ci : Nat) := by
    unfold dsl
    rw [if_pos (show (ci : Int) < 100 by omega), List.length_map, eN]
  rw [e2, e3]
  rfl
theorem zn_tH (D : zD) : zn (tH D) = D.length ∧ zsl (tH D) = (dsm D).toNat := by unfold zn zsl; rw [tH_n, tH_s]; exact ⟨Int.toNat_natCast _, rfl⟩
/-- new, dup, invokespecial: an object with all that its constructor makes -/
theorem st_make {p : Program} {l : Launch} {e : Env} {s : State} {m : MethodId} {below : List Frame} {meth : Method} {c : Code} {b L : Nat} {xs : Nat → Int32} {G : va_G} {cs : Nat → ClassId} (E : lE p s m meth c b L xs G cs) {aK aV : Nat → Nat} {vf : Option Nat} (hZ : zStr (fun q => s.heap.size ≤ q) aK aV vf s s.heap) (hR : vk_R "BoulderDowry$Tokens" 28 sown (aK 0) s) {ci y i1 i2 pc : Nat} {D D1 : zD} (hc : ci < 13) (hy : dYf y = true) (hk : dKd y = ci) (hz : dcal 5 y D.length (D ++ [((ci : Int), 0, (zFT ci).map dfd)]) = some D1) (hl1 : Cond.classLink "BoulderDowryLaw" i1 (zRX ci) ∈ lw_tbl) (hl2 : Cond.methodLink "BoulderDowryLaw" i2 (dMT y).1 ∈ lw_tbl) (hq : D.length + 1 ≤ 600000 ∧ (dsm D).toNat + zNX ci ≤ 7302250 ∧ D1.length ≤ 600000 ∧ (dsm D1).toNat ≤ 7302250) (d0 : decode code pc = .ok (.new i1, 3)) (d1 : decode code (pc + 3) = .ok (.dup, 1)) (d2 : decode code (pc + 4) = .ok (.invokespecial i2, 3)) {ad : Nat → Nat} {H : Heap} {locs : List Loc} {ls : Array Slot} (hls : ls.size = 4) (hSt : zSt G vwCl (fun q => s.heap.size ≤ q) s.heap 0 0 (fun _ => 0) false zFT zFK zEL cs ad (tH D) H locs)
    (k : ∀ (ad2 : Nat → Nat) (H2 : Heap) (locs2 : List Loc), zSt G vwCl (fun q => s.heap.size ≤ q) s.heap 0 0 (fun _ => 0) false zFT zFK zEL cs ad2 (tH D1) H2 locs2 → (∀ j, j < D.length → ad2 j = ad j) → W p l e room_1 s m #[Value.ref b] below meth c H2 locs2 (zn (tH D1)) (zsl (tH D1)) (lw_Z below #[Value.ref b] s) (F0 m (pc + 7) ls [.ref (ad2 D.length)])) : W p l e room_1 s m #[Value.ref b] below meth c H locs (zn (tH D)) (zsl (tH D)) (lw_Z below #[Value.ref b] s) (F0 m pc ls []) := by
  obtain ⟨⟨hx, hb, -, hml, hown, hts0, -, -, -, -⟩, hK, hnw⟩ := E
  have hts : ∀ w ∈ lw_g, w.before #[Value.ref b] s = true := fun w hw => hts0 w (lw_gt hw)
  have hA : ∀ q : Nat, s.heap.size ≤ q → (fun q : Nat => s.heap.size ≤ q) q := fun _ z => z
  obtain ⟨n1, n2⟩ := zn_tH D
  obtain ⟨n3, n4⟩ := zn_tH D1
  have eh := st_new_eq D hc
  have hcl := zClok_g (clk_all ci hc)
  have hm : (0 : Int) ≤ (dsm D) := by
    have := hSt.1.2.1
    rwa [tH_s] at this
  obtain ⟨x1, hM⟩ := dcal_sound (l := l) (aK := aK) (aV := aV) (vf := vf) 5 _ _ _ _ hz
  obtain ⟨y1, y2, y3, y4⟩ := dy_all hy
  refine zs_newL (SC := zSC) (S := []) hx hb hK hA hts hown hcl (by omega) (lw_gi hl1 rfl) (fun _ => ⟨by show _ ≤ 600000; omega, by show _ ≤ 7302250; omega⟩) d0 hSt (fun _ z => by cases z) (fun ad1 H1 locs1 hSt1 ha1 hS1 => ?_)
  rw [← eh] at hSt1 hS1 ⊢
  rw [tH_n] at hS1 ⊢
  refine lv_dup hx hb d1 (va := zc ad1 (zrf (D.length : Int) ci 0)) (by rw [zcr (Int.natCast_nonneg _)]; rfl) ?_
  have hrr : zRef (tH (D ++ [((ci : Int), 0, (zFT ci).map dfd)])) (D.length : Int) ci 0 := zNS_h hS1
  rw [hk] at hM
  refine zs_callDL (pc := pc + 4) (S := [zrf (D.length : Int) ci 0]) hx hb hK hA hts hown hml hZ hR (va_AO.of (hts0 _ dw_as)) (zAOA.of (hts0 _ dw_aa)) hM (lw_gi hl2 rfl) y2 y3 y1 (Int.natCast_nonneg _) (show (1 : Nat) ≤ 8 by decide) ⟨by show 10 ≤ 2048; omega, by show 1280 ≤ 84000; omega⟩ x1 ⟨by show _ ≤ 600000; omega, by show _ ≤ 7302250; omega⟩ d2 hls hSt1 (zNS_c (v := zrf (D.length : Int) ci 0) hrr hS1) (fun ad2 H2 locs2 hSt2 ha2 hS2 => ?_)
  have n5 : zn (tH (D ++ [((ci : Int), 0, (zFT ci).map dfd)])) = D.length + 1 := by rw [(zn_tH _).1, List.length_append]; rfl
  have kk := k ad2 H2 locs2 hSt2 (fun j hj => (ha2 j (by omega)).trans (ha1 j (by omega)))
  have ee : ([zrf (D.length : Int) ci 0] : List zV).map (zc ad2) = [.ref (ad2 D.length)] := by rw [List.map_cons, zcr (Int.natCast_nonneg _)]; rfl
  rw [ee]
  exact kk
