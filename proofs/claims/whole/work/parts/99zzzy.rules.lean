/-! THE CLAIM OUT OF ONE WALK OF THE LAW'S BODY. Your part is whole_start (and what it stands on); all else here is the same for every law, but numbers. -/
def R_law : String := "BoulderDowryLaw"
def lw_P (b : Addr) (xs : List Int32) (args : Array Value) (s : State) : Prop := args = #[.ref b] ∧ s.IntsAt b xs ∧ xs.length ≤ 3072 ∧ (Jvm.Cond.and given_1 narrow_1).before args s = true
def lw_Q (_ : Array Value) (s : State) (o : Outcome) (t : State) : Prop := o = .returned (some (.int 1)) ∧ Framed s o t [] 600000 7302250
def lw_Z (below : List Frame) (a : Array Value) (s : State) : State → Prop := fun t => ∃ o, t.status = .running ∧ Ended t below o ∧ lw_Q a s o t
/-- the law's own end, with 1 on the stack, nothing written that was there before, its room as the claim has it -/
theorem lw_ret {p : Program} {l : Launch} {e : Env} {s : State} {m : MethodId} {below : List Frame} {meth : Method} {c : Code} {b : Nat} (hx : p.tables.exec = Jvm.exec) (hb : c.code = code) (hr : meth.sig.returnType = ret) (hlocks : meth.locks = false) {pc : Nat} {H : Heap} {ls : Array Slot} (hdg : decode code pc = .ok (.ireturn, 1)) : W p l e room_1 s m #[Value.ref b] below meth c H [] 600000 7302250 (lw_Z below #[Value.ref b] s) (F0 m pc ls [.int 1]) := by
  intro T hT X
  obtain ⟨fs, hret, hrun, hended, hW, hframe⟩ := X.leave (v := some (.int 1)) (hlocks := hlocks) (fun h => by rw [hr] at h; cases h)
  have hmeth' : T.vm.method? m = some meth := X.method'
  refine ⟨T.setFrames fs, ?_, .returned (some (.int 1)), hrun, hended, rfl, ⟨_, rfl⟩, hW, hframe⟩
  jvm_step X.here [X.here.top, hx, hb, hdg, hmeth', hr, ret, narrow_b1]
  (try refine ⟨rfl, ?_⟩); (try refine ⟨rfl, ?_⟩)
  first | (intro acts; rw [hret _ acts rfl rfl rfl]) | rw [hret _ _ rfl rfl rfl]
  exact Steps.refl _
/-- what holds at the law's entry: the machine, the code, the tables' words (any of lw_tbl by 'hts w (by decide +kernel)'), the script of L ints xs at the cell b, what the Statement gives of the start (any of its parts by flat_of_before) -/
def lw_At (p : Program) (s : State) (m : MethodId) (meth : Method) (c : Code) (b L : Nat) (xs : Nat → Int32) : Prop :=
  p.tables.exec = Jvm.exec ∧ c.code = code ∧ meth.sig.returnType = ret ∧ c.maxLocals = 4 ∧ s.vm.findClass R_law = some m.cls ∧ (∀ w ∈ lw_tbl, w.before #[Value.ref b] s = true) ∧ va_X b L xs s s.heap ∧ b < s.heap.size ∧ meth.locks = false ∧ (Jvm.Cond.and given_1 narrow_1).before #[Value.ref b] s = true
/-! rules for the law's body: the script at b, both objects at the cells 0 and 403, the place n -/
theorem zafterL {p : Program} {l : Launch} {e : Env} {R : Room} {s : State} {m : MethodId} {args : Array Value} {below : List Frame} {meth : Method} {c : Code} {Q : State → Prop} {D : va_G} {cl : List vw_C} {A : Nat → Prop} {H0 : Heap} {n0 s0 : Nat} {ad0 : Nat → Nat} {md : Bool} {FT : Nat → List Nat} {FK : Nat → Nat → Nat × Nat × Int} {EL : Nat → Nat × Nat} {cs : Nat → ClassId} {pc : Nat} {S : List zV} {h : zH} {SC : String} {ad : Nat → Nat} {H : Heap} {locs : List Loc} {ls : Array Slot} {rk : Int} {res : zV × zH} {st0 : List Value} {a : Array Value} (hA : ∀ q, H0.size ≤ q → A q) (hSt : zSt D cl A H0 n0 s0 ad0 md FT FK EL cs ad h H locs) (hS : zNS h S) (hext : zExt h res.2)
    (hr : va_Run p l e R s m args below meth c H locs (zn h - n0) (zsl h - s0) (zn res.2 - zn h) (zsl res.2 - zsl h) (F0 m pc ls st0) (S.map (zc ad)) (zQc D cl md FT FK EL cs SC rk (zn h) ad (va_A (zw FT cs ad h) H.size) res a) (va_A (zw FT cs ad h) H.size))
    (k : ∀ (ad2 : Nat → Nat) (H2 : Heap) (locs2 : List Loc), zSt D cl A H0 n0 s0 ad0 md FT FK EL cs ad2 res.2 H2 locs2 → (∀ j, j < zn h → ad2 j = ad j) → zNS res.2 (zpush rk res.1 S) → W p l e R s m args below meth c H2 locs2 (zn res.2 - n0) (zsl res.2 - s0) Q (F0 m (pc + 3) ls ((zpush rk res.1 S).map (zc ad2)))) : W p l e R s m args below meth c H locs (zn h - n0) (zsl h - s0) Q (F0 m pc ls st0) := by
  intro T hT X
  obtain ⟨v, st₀, t, T', Lc, h0, X', hLc, e1, e2, ⟨⟨ad2, ho, hw2, hn2, ha2, hP2, hD2, hK2⟩, hz, hk⟩, st⟩ := hr T hT X
  have hF := zfree hSt hA
  have hmono := zn_mono hext
  rw [h0] at hz hk
  have hSt2 : zSt D cl A H0 n0 s0 ad0 md FT FK EL cs ad2 res.2 T'.heap (locs ++ Lc) := by
    refine ⟨hw2, ⟨Nat.le_trans hSt.2.1.1 hmono.1, Nat.le_trans hSt.2.1.2.1 hmono.2, fun j hj => (ha2 j (Nat.lt_of_lt_of_le hj hSt.2.1.1)).trans (hSt.2.1.2.2 j hj)⟩, by rw [e1]; exact hP2, hD2.weaken (fun _ q _ hq => hF q.1 hq), ?_⟩
    refine ⟨Nat.le_trans hSt.2.2.2.2.1 (by rw [e1]; exact hz), fun q h1 h2 => ?_, fun q hq => ?_⟩
    · rw [e1, hk q (Nat.lt_of_lt_of_le h1 hSt.2.2.2.2.1) (fun z => h2 (hF q z))]
      exact hSt.2.2.2.2.2.1 q h1 h2
    · rcases List.mem_append.mp hq with h | h
      · exact hSt.2.2.2.2.2.2 q h
      · exact hF _ (hLc q h)
  have hS2 : zNS res.2 (zpush rk res.1 S) := by
    unfold zpush
    split
    · exact fun v hv => zN_ext hext (hS v hv)
    · exact zNS_c hn2 fun v hv => zN_ext hext (hS v hv)
  have k2 := k ad2 T'.heap (locs ++ Lc) hSt2 ha2 hS2
  rw [show zn res.2 - n0 = zn h - n0 + (zn res.2 - zn h) by have := hSt.2.1.1; omega, show zsl res.2 - s0 = zsl h - s0 + (zsl res.2 - zsl h) by have := hSt.2.1.2.1; omega] at k2
  have hst : (zpush rk res.1 S).map (zc ad2) = v.toList ++ S.map (zc ad) := by
    cases ho
    unfold zpush
    split
    · rw [zmap_ext ha2 hS]; rfl
    · rw [List.map_cons, zmap_ext ha2 hS]; rfl
  rw [hst] at k2
  obtain ⟨t2, a1, b1⟩ := k2 T' rfl X'
  exact ⟨t2, st t2 a1, b1⟩
def lE (p : Program) (s : State) (m : MethodId) (meth : Method) (c : Code) (b L : Nat) (xs : Nat → Int32) (G : va_G) (cs : Nat → ClassId) : Prop := lw_At p s m meth c b L xs ∧ va_K G vwCl (ztys cs zSC) s ∧ ∀ w ∈ zNw, va_Nw w s
def lA (p : Program) (l : Launch) (e : Env) (s : State) (m : MethodId) (below : List Frame) (meth : Method) (c : Code) (b : Nat) (G : va_G) (cs : Nat → ClassId) (n pc : Nat) (S : List zV) (h : zH) : Prop :=
  ∀ (ad : Nat → Nat) (H : Heap) (locs : List Loc) (ls : Array Slot), zSt G vwCl (fun q => s.heap.size ≤ q) s.heap 0 0 (fun _ => 0) true zFT zFK zEL cs ad h H locs → zNS h S → lv_has ls 4 [(0, .ref b), (1, .ref (ad 0)), (2, .ref (ad 403)), (3, .int (Int32.ofInt (n : Int)))] → W p l e room_1 s m #[Value.ref b] below meth c H locs (zn h) (zsl h) (lw_Z below #[Value.ref b] s) (F0 m pc ls (S.map (zc ad)))
theorem lr_load1 {p : Program} {l : Launch} {e : Env} {s : State} {m : MethodId} {below : List Frame} {meth : Method} {c : Code} {b L : Nat} {xs : Nat → Int32} {G : va_G} {cs : Nat → ClassId} (E : lE p s m meth c b L xs G cs) {n pc : Nat} {S : List zV} {h : zH} (hd : decode code pc = .ok (.aload_n 1, 1)) (hr : zRef h 0 11 0) (k : lA p l e s m below meth c b G cs n (pc + 1) (zrf 0 11 0 :: S) h) : lA p l e s m below meth c b G cs n pc S h := by
  intro ad H locs ls hSt hS hl
  have k2 := k ad H locs ls hSt (zNS_c (v := zrf 0 11 0) hr hS) hl
  rw [List.map_cons, zcr (by decide)] at k2
  exact lv_aload_n E.1.1 E.1.2.1 hd rfl (lv_at hl 1 rfl) k2
theorem lr_load2 {p : Program} {l : Launch} {e : Env} {s : State} {m : MethodId} {below : List Frame} {meth : Method} {c : Code} {b L : Nat} {xs : Nat → Int32} {G : va_G} {cs : Nat → ClassId} (E : lE p s m meth c b L xs G cs) {n pc : Nat} {S : List zV} {h : zH} (hd : decode code pc = .ok (.aload_n 2, 1)) (hr : zRef h 403 12 0) (k : lA p l e s m below meth c b G cs n (pc + 1) (zrf 403 12 0 :: S) h) : lA p l e s m below meth c b G cs n pc S h := by
  intro ad H locs ls hSt hS hl
  have k2 := k ad H locs ls hSt (zNS_c (v := zrf 403 12 0) hr hS) hl
  rw [List.map_cons, zcr (by decide)] at k2
  exact lv_aload_n E.1.1 E.1.2.1 hd rfl (lv_at hl 2 rfl) k2
theorem lr_read {p : Program} {l : Launch} {e : Env} {s : State} {m : MethodId} {below : List Frame} {meth : Method} {c : Code} {b L : Nat} {xs : Nat → Int32} {G : va_G} {cs : Nat → ClassId} (E : lE p s m meth c b L xs G cs) {n pc : Nat} {S : List zV} {h : zH} (k : Nat) (hL : L ≤ 3072) (hn : n + 6 ≤ L) (hk : k < 6) (d0 : decode code pc = .ok (.aload_n 0, 1)) (d1 : decode code (pc + 1) = .ok (.iload_n 3, 1)) (d2 : decode code (pc + 2) = .ok (.iconst (k : Int), 1)) (d3 : decode code (pc + 3) = .ok (.iadd, 1)) (d4 : decode code (pc + 4) = .ok (.iaload, 1)) (kk : lA p l e s m below meth c b G cs n (pc + 5) (.inl (xs (n + k)).toInt :: S) h) : lA p l e s m below meth c b G cs n pc S h := by
  intro ad H locs ls hSt hS hl
  have hbl := E.1.2.2.2.2.2.2.2.1
  have hz : zI32 ((n + k : Nat) : Int) := by unfold zI32; omega
  have k2 := kk ad H locs ls hSt (zNS_c (v := .inl (xs (n + k)).toInt) (zI32_t _) hS) hl
  rw [List.map_cons, show zc ad (.inl (xs (n + k)).toInt) = .int (xs (n + k)) from congrArg Value.int (zoi _)] at k2
  refine lv_aload_n E.1.1 E.1.2.1 d0 rfl (lv_at hl 0 rfl) ?_
  refine lv_iload_n E.1.1 E.1.2.1 d1 rfl (lv_at hl 3 rfl) ?_
  refine lv_iconst E.1.1 E.1.2.1 d2 rfl ?_
  refine lv_iadd E.1.1 E.1.2.1 d3 ?_
  rw [← Int32.ofInt_add, ← Int.natCast_add]
  refine va_sld (A := fun q => s.heap.size ≤ q) E.1.1 E.1.2.1 E.1.2.2.2.2.2.2.1 hbl (Nat.not_le.mpr hbl) hSt.2.2.2.2 (zi_in hz (by omega) (by omega)) d4 ?_
  rw [zi_clamp hz, Int.toNat_natCast]
  exact k2
theorem lr_cmp {p : Program} {l : Launch} {e : Env} {s : State} {m : MethodId} {below : List Frame} {meth : Method} {c : Code} {b L : Nat} {xs : Nat → Int32} {G : va_G} {cs : Nat → ClassId} (E : lE p s m meth c b L xs G cs) {n pc : Nat} {off : Int} {S : List zV} {h : zH} {a : Int} (hd : decode code pc = .ok (.if_icmp .eq off, 3)) (ht : (pc : Int) + off = ((1417 : Nat) : Int)) (k : lA p l e s m below meth c b G cs n 1417 S h) : lA p l e s m below meth c b G cs n pc (.inl a :: .inl a :: S) h := by
  intro ad H locs ls hSt hS hl
  exact lv_icmp_eq E.1.1 E.1.2.1 hd ht (fun _ => k ad H locs ls hSt (zNS_t (zNS_t hS)) hl) (fun z => absurd rfl z)
theorem lr_bool {p : Program} {l : Launch} {e : Env} {s : State} {m : MethodId} {below : List Frame} {meth : Method} {c : Code} {b L : Nat} {xs : Nat → Int32} {G : va_G} {cs : Nat → ClassId} (E : lE p s m meth c b L xs G cs) {n pc : Nat} {S : List zV} {h : zH} {x : Int} (d0 : decode code pc = .ok (.ifCond .eq 7, 3)) (d3 : decode code (pc + 3) = .ok (.iconst 1, 1)) (d4 : decode code (pc + 4) = .ok (.goto 4, 3)) (d7 : decode code (pc + 7) = .ok (.iconst 0, 1)) (k : lA p l e s m below meth c b G cs n (pc + 8) (.inl (if x = 0 then 0 else 1) :: S) h) : lA p l e s m below meth c b G cs n pc (.inl x :: S) h := by
  intro ad H locs ls hSt hS hl
  have hx : zI32 x := zNS_h hS
  refine lv_if_eq (tgt := pc + 7) E.1.1 E.1.2.1 d0 (by omega) (fun q => ?_) (fun q => ?_)
  · have q : x = 0 := (zi_eq hx z0_in).mp q
    rw [if_pos q] at k
    exact lv_iconst E.1.1 E.1.2.1 d7 rfl (k ad H locs ls hSt (zNS_c (v := .inl 0) z0_in (zNS_t hS)) hl)
  · have q : ¬ x = 0 := fun z => q (by rw [z]; rfl)
    rw [if_neg q] at k
    refine lv_iconst E.1.1 E.1.2.1 d3 rfl ?_
    exact lv_goto (tgt := pc + 8) E.1.1 E.1.2.1 d4 (by omega) (k ad H locs ls hSt (zNS_c (v := .inl 1) (show zI32 1 by unfold zI32; omega) (zNS_t hS)) hl)
theorem h0_n {h : zH} (g : zNg (tH zD0) h) : h (-1) 0 = 464 := by rw [g (-1) (by decide), tH_n, zD0_len]; rfl
theorem h0_s0 : zsl (tH zD0) ≤ 7302250 := by
  unfold zsl
  rw [tH_s]
  decide +kernel
theorem zNg_n {h h1 : zH} (g : zNg h h1) : zn h1 = zn h ∧ zsl h1 = zsl h := by unfold zn zsl; rw [g (-1) (by decide)]; exact ⟨rfl, rfl⟩
theorem h0_b {h : zH} (g : zNg (tH zD0) h) : zRef h 0 11 0 := Or.inr ⟨by decide, by rw [h0_n g]; decide, by rw [g (-2) (by decide), tH_k (by decide)]; decide +kernel, by rw [g (-3) (by decide), tH_l (by decide)]; decide +kernel⟩
theorem h0_r {h : zH} (g : zNg (tH zD0) h) : zRef h 403 12 0 := Or.inr ⟨by decide, by rw [h0_n g]; decide, by rw [g (-2) (by decide), tH_k (by decide)]; decide +kernel, by rw [g (-3) (by decide), tH_l (by decide)]; decide +kernel⟩
def lcB (y idx : Nat) (p : Int) (n kd : Nat) : Bool := zat p (Cond.methodLink "BoulderDowryLaw" idx (zMT y).1) && (zYf y && (!(zYt y).2.2.2.2.2 && (decide ((zYt y).1 = n) && (decide ((zMT y).2.2.2.2.1 ≠ 1 ∧ (zMT y).2.2.2.2.1 ≠ 2) && (decide ((zMT y).1.cls = zRX kd) && decide (kd < 13))))))
theorem lr_call {p : Program} {l : Launch} {e : Env} {s : State} {m : MethodId} {below : List Frame} {meth : Method} {c : Code} {b L : Nat} {xs : Nat → Int32} {G : va_G} {cs : Nat → ClassId} (E : lE p s m meth c b L xs G cs) {n pc y idx : Nat} {as S : List zV} {a r p0 : Int} {kd : Nat} {h h1 : zH} (hB : lcB y idx p0 as.length kd = true) (hz : zF 60 y (zrf r kd 0 :: as) h = some (.inl a, h1)) (g0 : zNg (tH zD0) h) (g : zNg h h1) (h0 : 0 ≤ r) (hcat : zcat S ≤ 8) (hd : decode code pc = .ok (.invokevirtual idx, 3)) (k : lA p l e s m below meth c b G cs n (pc + 3) (.inl a :: S) h1) : lA p l e s m below meth c b G cs n pc (as.reverse ++ zrf r kd 0 :: S) h := by
  intro ad H locs ls hSt hS hl
  obtain ⟨⟨hx, hb, -, hml, hown, hts0, -, -, -, -⟩, hK, hnw⟩ := E
  have hts : ∀ w ∈ lw_g, w.before #[Value.ref b] s = true := fun w hw => hts0 w (lw_gt hw)
  have hA : ∀ q : Nat, s.heap.size ≤ q → (fun q : Nat => s.heap.size ≤ q) q := fun _ z => z
  obtain ⟨hlk, hB⟩ := zand2 hB
  obtain ⟨hy, hB⟩ := zand2 hB
  obtain ⟨hst, hB⟩ := zand2 hB
  obtain ⟨hn, hB⟩ := zand2 hB
  obtain ⟨hrk, hB⟩ := zand2 hB
  obtain ⟨hcls, hkd⟩ := zand2 hB
  have hst : (zYt y).2.2.2.2.2 = false := by
    cases q : (zYt y).2.2.2.2.2
    · rfl
    · rw [q] at hst; cases hst
  have hn := of_decide_eq_true hn
  have hrk := (of_decide_eq_true hrk).2
  have hcls := of_decide_eq_true hcls
  have hkd := of_decide_eq_true hkd
  have hlk : Cond.methodLink R_law idx (zMT y).1 ∈ lw_g := lw_gi (zat_ok hlk) rfl
  obtain ⟨hext, hM⟩ := zF_sound l zSC 60 y (zrf r kd 0 :: as) h _ hz
  obtain ⟨k1, -, -, k3⟩ := yb_all hy
  obtain ⟨hin, hsel⟩ := k3 hst
  have hcal := zCal_g k1
  rw [hn] at hcal
  rw [hcls] at hsel
  have hin : Cond.instanceMethod (zMT y).1 ∈ lw_g := lw_gi hin rfl
  have hsel : Cond.selects (zRX kd) (zMT y).1 (zMT y).1 ∈ lw_g := lw_gi hsel rfl
  have hcl := (clk_all kd hkd).1
  have hS0 : zNS h S := fun v hv => hS v (List.mem_append_right _ (List.mem_cons_of_mem _ hv))
  have hr : zRef h r kd 0 := hS (zrf r kd 0) (List.mem_append_right _ List.mem_cons_self)
  have hNa : zNS h (zrf r kd 0 :: as) := zNS_c hr fun v hv => hS v (List.mem_append_left _ (List.mem_reverse.mpr hv))
  obtain ⟨n1, n2⟩ := zNg_n g
  obtain ⟨n3, n4⟩ := zNg_n g0
  have n5 : zn h = 464 := by unfold zn; rw [h0_n g0]; rfl
  have hs0 := h0_s0
  refine zafterL (SC := zSC) (rk := (zMT y).2.2.2.2.1) (res := (.inl a, h1)) (S := S) (a := (zrf r kd 0 :: as : List zV).map (zc ad) |>.toArray) hA hSt hS0 hext ?_ (fun ad2 H2 locs2 hSt2 ha hS2 => ?_)
  · have hMM := hM hSt.1 hNa G cs ad H.size
    have hPK : ∀ U : State, U.heap = H → s.WarmedH U.vm → zPreN G vwCl zFT cs zSC ad h H.size U := fun U hU hW => ⟨⟨by rw [hU], by rw [hU]; exact hSt.2.2.1, va_K.moved hW.alike hK, hSt.2.2.2.1.weaken (fun _ _ _ _ => trivial)⟩, zNw_warm hnw hW⟩
    have hR2 : (zroom 60 (zn h1 - zn h) (zsl h1 - zsl h)).frames + 1 ≤ room_1.frames ∧ 8 + ((zMT y).2.2.1 + 11) + (zroom 60 (zn h1 - zn h) (zsl h1 - zsl h)).locals ≤ room_1.locals := ⟨by show 60 + 1 ≤ 2048; omega, by show 8 + ((zMT y).2.2.1 + 11) + 128 * 60 ≤ 84000; have := hcal.2.2; omega⟩
    have hf2 : zn h - 0 + (zn h1 - zn h) ≤ room_1.cells ∧ zsl h - 0 + (zsl h1 - zsl h) ≤ room_1.slots := ⟨by show _ ≤ 600000; omega, by show _ ≤ 7302250; omega⟩
    have hcat2 : 2 * (F0 m pc ls ((as.reverse ++ zrf r kd 0 :: S : List zV).map (zc ad))).monitorRoom + ((S.map (zc ad)).map fun v => v.category).sum ≤ 8 := lv_room (by rw [zcat_sum]; exact hcat)
    have hce : (zw zFT cs ad h)[r.toNat]? = some (ad r.toNat, .inr (kd, zob zFT ad kd (h r))) := by
      rw [zcell ad hr h0]; unfold zce; rw [if_pos (by omega)]
    have hav : (zrf r kd 0 :: as : List zV).map (zc ad) = .ref (ad r.toNat) :: as.map (zc ad) := by rw [List.map_cons, zcr h0]
    rw [hav] at hMM ⊢
    exact va_runV (C := zRX kd) (b := ad r.toNat) (As := as.map (zc ad)) ⟨hx, hb, hml, hown, hts⟩ hMM ⟨callB_of as.length hts (zgoodIn lw_good hcal.1.1) rfl rfl rfl (hts _ hcal.1.2) (hts _ hlk) hcal.2.1 hR2, hts _ hin, hts _ hsel⟩ ⟨zblindN, va_recv hK hSt.2.2.1 hcl hce, fun U hU hW => ⟨rfl, hPK U hU hW⟩⟩ rfl (by rw [List.length_map]) hl.1 (by rw [show (F0 m pc ls ((as.reverse ++ zrf r kd 0 :: S).map (zc ad))).stack = (as.reverse ++ zrf r kd 0 :: S).map (zc ad) from rfl, List.map_append, List.map_reverse, List.map_cons, zcr h0]) hcat2 hd hf2
  · have ep : zpush (zMT y).2.2.2.2.1 (.inl a) S = .inl a :: S := if_neg hrk
    have hS2 : zNS h1 (zpush (zMT y).2.2.2.2.1 (.inl a) S) := hS2
    show W p l e room_1 s m #[Value.ref b] below meth c H2 locs2 (zn h1) (zsl h1) (lw_Z below #[Value.ref b] s) (F0 m (pc + 3) ls ((zpush (zMT y).2.2.2.2.1 (.inl a) S).map (zc ad2)))
    rw [ep] at hS2 ⊢
    exact k ad2 H2 locs2 ls hSt2 hS2 (by rw [ha 0 (by omega), ha 403 (by omega)]; exact hl)
theorem lr_two {yB yR : Nat} {as : List zV} {h : zH} (al : Alike (zF 60 yB (zrf 0 11 0 :: as) h) (zF 60 yR (zrf 403 12 0 :: as))) {i j : Nat} {p q : Int} {n : Nat} (hB : lcB yB i p n 11 = true) (hR : lcB yR j q n 12 = true) : ∃ a h1 h2, zF 60 yB (zrf 0 11 0 :: as) h = some (.inl a, h1) ∧ zF 60 yR (zrf 403 12 0 :: as) h1 = some (.inl a, h2) ∧ INV h2 ∧ zNg h h1 ∧ zNg h1 h2 := by
  have key : ∀ {y idx : Nat} {p : Int} {n kd : Nat}, lcB y idx p n kd = true → (zMT y).2.2.2.2.1 ≠ 1 := fun hB => by
    obtain ⟨-, hB⟩ := zand2 hB
    obtain ⟨-, hB⟩ := zand2 hB
    obtain ⟨-, hB⟩ := zand2 hB
    obtain ⟨-, hB⟩ := zand2 hB
    exact (of_decide_eq_true (zand2 hB).1).1
  obtain ⟨v, h1, e1, v2, h2, e2, e3, i2⟩ := al
  obtain ⟨g1, a, ea⟩ := zF_int (key hB) e1
  obtain ⟨g2, -⟩ := zF_int (key hR) e2
  have ea : v = .inl a := ea
  subst ea
  subst e3
  exact ⟨a, h1, h2, e1, e2, i2, g1, g2⟩
