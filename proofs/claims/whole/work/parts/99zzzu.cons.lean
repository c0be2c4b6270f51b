/-! every constructor, as the making machine has it -/
theorem dapp_ext (D : zD) (c : zDc) (h : 0 ≤ dsl c) : zExt (tH D) (tH (D ++ [c])) := by
  rw [tH_app]
  exact zExt_new h
theorem dz_ext {pc : Nat} {ins : Instr} {ax : List Int} {L : zL} {S : List zV} {D : zD} {pc1 : Nat} {L1 : zL} {S1 : List zV} {D1 : zD} (h : dz pc ins ax L S D = some (pc1, L1, S1, D1)) : zExt (tH D) (tH D1) := by
  have hz : zins false zFT zEL (fun _ _ _ => none) (zone pc1 L1 S1 (tH D1) (.inl 0, tH D1)) (zone pc1 L1 S1 (tH D1) (.inl 0, tH D1)) pc ins ax L S (tH D) = some (.inl 0, tH D1) := by
    rw [dz_ok h]
    exact zone_iff.mpr ⟨rfl, rfl, rfl, rfl, rfl⟩
  rcases zins_tail (fun _ _ _ _ h => by cases h) false zFT zEL pc ins ax L S _ hz with ⟨pc2, L2, S2, h2, g1, g2, -⟩ | ⟨pc2, L2, S2, h2, g1, g2, -⟩ | ⟨g1, -⟩
  · obtain ⟨-, -, -, e, -⟩ := zone_iff.mp g2
    rw [← e]; exact g1
  · obtain ⟨-, -, -, e, -⟩ := zone_iff.mp g2
    rw [← e]; exact g1
  · exact g1
theorem dins_ext {Φ : Nat → Int → zD → Option zD} (hΦ : ∀ y r D D1, Φ y r D = some D1 → zExt (tH D) (tH D1)) {K : zDK} (hK : ∀ pc L S D D1, K pc L S D = some D1 → zExt (tH D) (tH D1)) {pc : Nat} {ins : Instr} {ax : List Int} {L : zL} {S : List zV} {D D1 : zD} (hz : dins Φ K pc ins ax L S D = some D1) : zExt (tH D) (tH D1) := by
  have oth : dOth K pc ins ax L S D = some D1 → zExt (tH D) (tH D1) := by
    intro hz
    unfold dOth at hz
    split at hz
    · rename_i hq
      split at hz
      · exact (dz_ext hq).tr (hK _ _ _ _ _ hz)
      · cases hz
    · cases hz
  cases ins with
  | return_ =>
    replace hz : dRet S D = some D1 := hz
    unfold dRet at hz
    split at hz
    · cases hz; exact zExt.rf _
    · cases hz
  | new idx =>
    replace hz : dNew K pc ax L S D = some D1 := hz
    unfold dNew at hz
    split at hz
    · split at hz
      · rename_i hq
        have hq := of_decide_eq_true hq
        refine (dapp_ext D _ ?_).tr (hK _ _ _ _ _ hz)
        unfold dsl
        rw [if_pos (by show _ < (100 : Int); omega)]
        omega
      · cases hz
    · cases hz
  | newarray t =>
    replace hz : dNewa K pc ax L S D = some D1 := hz
    unfold dNewa at hz
    split at hz
    · rename_i kd tl n S
      split at hz
      · rename_i hq
        have hq := of_decide_eq_true hq
        refine (dapp_ext D _ ?_).tr (hK _ _ _ _ _ hz)
        unfold dsl
        by_cases e : kd < 100
        · rw [if_pos e]; exact Int.natCast_nonneg _
        · rw [if_neg e]; exact hq.1
      · cases hz
    · cases hz
  | anewarray idx =>
    replace hz : dNewq K pc L S D = some D1 := hz
    unfold dNewq at hz
    split at hz
    · split at hz
      · rename_i hq
        have hq := of_decide_eq_true hq
        refine (dapp_ext D _ ?_).tr (hK _ _ _ _ _ hz)
        unfold dsl
        rw [if_neg (show ¬ (103 : Int) < 100 by decide)]
        exact hq.1
      · cases hz
    · cases hz
  | multianewarray idx dims =>
    replace hz : dMna K pc L S D = some D1 := hz
    unfold dMna at hz
    split at hz
    · split at hz
      · have k1 := hK _ _ _ _ _ hz
        rw [tH_mna] at k1
        exact (h4m_ext _ (by rw [tH_n]; omega)).tr k1
      · cases hz
    · cases hz
  | aastore =>
    replace hz : dAst K pc L S D = some D1 := hz
    unfold dAst at hz
    split at hz
    · split at hz
      · rename_i hq
        obtain ⟨h1, hq⟩ := zand2 hq
        obtain ⟨h2, hq⟩ := zand2 hq
        obtain ⟨h3, hq⟩ := zand2 hq
        obtain ⟨g1, g2, g3, g4, g5, g6⟩ := of_decide_eq_true hq
        have k1 := hK _ _ _ _ _ hz
        rw [tH_set g2 g3 g4 (fun z => by omega)] at k1
        exact (zExt_set g2).tr k1
      · cases hz
    · cases hz
  | putfield idx =>
    replace hz : dPut K pc ax L S D = some D1 := hz
    unfold dPut at hz
    split at hz
    · split at hz
      · rename_i hq
        obtain ⟨h1, h2⟩ := zand2 hq
        obtain ⟨g1, g2, g3, g4⟩ := of_decide_eq_true h2
        split at hz
        · have k1 := hK _ _ _ _ _ hz
          rw [tH_set g1 g2 g3 (fun _ => g4)] at k1
          exact (zExt_set g1).tr k1
        · cases hz
      · cases hz
    · cases hz
  | invokespecial idx =>
    replace hz : dInv Φ K pc ax L S D = some D1 := hz
    unfold dInv at hz
    split at hz
    · split at hz
      · split at hz
        · exact hK _ _ _ _ _ hz
        · split at hz
          · split at hz
            · rename_i hφ
              exact (hΦ _ _ _ _ hφ).tr (hK _ _ _ _ _ hz)
            · cases hz
          · cases hz
      · cases hz
    · cases hz
  | ldc idx =>
    replace hz : dLdc K pc ax L S D = some D1 := hz
    unfold dLdc at hz
    split at hz
    · split at hz
      · exact hK _ _ _ _ _ hz
      · cases hz
    · split at hz
      · split at hz
        · exact hK _ _ _ _ _ hz
        · cases hz
      · cases hz
  | invokestatic idx =>
    replace hz : dWl K pc L S D = some D1 := hz
    unfold dWl at hz
    split at hz
    · split at hz
      · exact hK _ _ _ _ _ hz
      · cases hz
    · cases hz
  | _ => exact oth hz
theorem drun_ext {Φ : Nat → Int → zD → Option zD} (hΦ : ∀ y r D D1, Φ y r D = some D1 → zExt (tH D) (tH D1)) {rows : List zRow} : ∀ (f pc : Nat) (L : zL) (S : List zV) (D D1 : zD), drun Φ rows f pc L S D = some D1 → zExt (tH D) (tH D1)
  | 0, _, _, _, _, _, h => by cases h
  | f + 1, pc, L, S, D, D1, h => by
    replace h : (match (generalizing := false) drow rows pc with | none => none | some q => dins Φ (drun Φ rows f) pc q.2.2.1 q.2.2.2.2.2 L S D) = some D1 := h
    split at h
    · cases h
    · exact dins_ext hΦ (drun_ext hΦ f) h
theorem dcal_ext : ∀ (d y : Nat) (r : Int) (D D1 : zD), dcal d y r D = some D1 → zExt (tH D) (tH D1)
  | 0, _, _, _, _, h => by cases h
  | d + 1, y, r, D, D1, h => drun_ext (dcal_ext d) _ _ _ _ _ _ h
def dGd (own : String) (cc : ByteArray) (rows : List zRow) : Prop := ∀ q ∈ rows, decode cc q.1 = .ok (q.2.2.1, q.2.1) ∧ dlnb q.2.2.1 q.2.1 = true ∧ dIb own cc q.1 q.2.2.1 q.2.2.2.2.2 = true
theorem dGd_of {own : String} {cc : ByteArray} {rows : List zRow} (h : rows.all (fun q => decide (decode cc q.1 = .ok (q.2.2.1, q.2.1)) && (dlnb q.2.2.1 q.2.1 && dIb own cc q.1 q.2.2.1 q.2.2.2.2.2)) = true) : dGd own cc rows := fun q hq => by
  obtain ⟨h1, h2⟩ := zand2 (List.all_eq_true.mp h q hq)
  obtain ⟨h2, h3⟩ := zand2 h2
  exact ⟨of_decide_eq_true h1, h2, h3⟩
theorem dgd_0 : dGd "BoulderDowry$CrewSearch" prog_2_method_1_code cr_0 := dGd_of (by decide +kernel)
theorem dgd_1 : dGd "BoulderDowry$History" prog_3_method_1_code cr_1 := dGd_of (by decide +kernel)
theorem dgd_2 : dGd "BoulderDowry$LawBook" prog_4_method_1_code cr_2 := dGd_of (by decide +kernel)
theorem dgd_3 : dGd "BoulderDowry$LawReader" prog_5_method_1_code cr_3 := dGd_of (by decide +kernel)
theorem dgd_4 : dGd "BoulderDowry$Ledger" prog_6_method_1_code cr_4 := dGd_of (by decide +kernel)
theorem dgd_5 : dGd "BoulderDowry$Mover" prog_7_method_1_code cr_5 := dGd_of (by decide +kernel)
theorem dgd_6 : dGd "BoulderDowry$NetSearch" prog_8_method_1_code cr_6 := dGd_of (by decide +kernel)
theorem dgd_7 : dGd "BoulderDowry$Slope" prog_9_method_1_code cr_7 := dGd_of (by decide +kernel)
theorem dgd_8 : dGd "BoulderDowry$SlopeReader" prog_10_method_1_code cr_8 := dGd_of (by decide +kernel)
theorem dgd_9 : dGd "BoulderDowry$State" prog_11_method_1_code cr_9 := dGd_of (by decide +kernel)
theorem dgd_10 : dGd "BoulderDowry$Tokens" prog_12_method_1_code cr_10 := dGd_of (by decide +kernel)
theorem dgd_11 : dGd "BoulderDowry" prog_1_method_1_code cr_11 := dGd_of (by decide +kernel)
theorem dgd_12 : dGd "BoulderDowryModel" prog_14_method_1_code cr_12 := dGd_of (by decide +kernel)
theorem dgd_all {y : Nat} (h : dYf y = true) : dGd (dMT y).1.cls (dMT y).2.1 (dMT y).2.2.2.2.2.1 := by
  unfold dYf at h
  simp only [Bool.or_eq_true] at h
  rcases h with h | h | h | h | h | h | h | h | h | h | h | h | h
  · rw [Nat.eq_of_beq_eq_true h]; exact dgd_0
  · rw [Nat.eq_of_beq_eq_true h]; exact dgd_1
  · rw [Nat.eq_of_beq_eq_true h]; exact dgd_2
  · rw [Nat.eq_of_beq_eq_true h]; exact dgd_3
  · rw [Nat.eq_of_beq_eq_true h]; exact dgd_4
  · rw [Nat.eq_of_beq_eq_true h]; exact dgd_5
  · rw [Nat.eq_of_beq_eq_true h]; exact dgd_6
  · rw [Nat.eq_of_beq_eq_true h]; exact dgd_7
  · rw [Nat.eq_of_beq_eq_true h]; exact dgd_8
  · rw [Nat.eq_of_beq_eq_true h]; exact dgd_9
  · rw [Nat.eq_of_beq_eq_true h]; exact dgd_10
  · rw [Nat.eq_of_beq_eq_true h]; exact dgd_11
  · rw [Nat.eq_of_beq_eq_true h]; exact dgd_12
theorem dMT_no {y : Nat} (h : dYf y = false) : dMT y = zM0 := by
  unfold dMT
  split <;> first | rfl | exact absurd h (by decide)
theorem drun_nil {Φ : Nat → Int → zD → Option zD} {f pc : Nat} {L : zL} {S : List zV} {D : zD} : drun Φ [] f pc L S D = none := by
  cases f <;> rfl
theorem drun_sound {p : Program} {l : Launch} {e : Env} {s : State} {m : MethodId} {args : Array Value} {below : List Frame} {meth : Method} {c : Code} {G : va_G} {A : Nat → Prop} {n0 s0 : Nat} {ad0 : Nat → Nat} {cs : Nat → ClassId} {d : Nat} {cc : ByteArray} {aK aV : Nat → Nat} {vf : Option Nat} (hx : p.tables.exec = Jvm.exec) (hb : c.code = cc) (hK : va_K G vwCl (ztys cs zSC) s) (hA : ∀ q, s.heap.size ≤ q → A q) (hts : ∀ w ∈ lw_g, w.before args s = true) {own : String} (hown : s.vm.findClass own = some m.cls) {nL : Nat} (hml : c.maxLocals = nL) (hlo : meth.locks = false) (hret : meth.sig.returnType = none) (hnm : meth.name = "<init>") (hd4 : 4 ≤ d) (hZ : zStr A aK aV vf s s.heap) (hR : vk_R "BoulderDowry$Tokens" 28 sown (aK 0) s) (hAO : va_AO zSC s) (hAA : zAOA s) {Φ : Nat → Int → zD → Option zD} (hΦ : dPs l aK aV vf d Φ) {rows : List zRow} (hg : dGd own cc rows) : ∀ (f pc : Nat) (L : zL) (S : List zV) (D D1 : zD), L.length = nL → drun Φ rows f pc L S D = some D1 → zExt (tH D) (tH D1) ∧ zA p l e s m args below meth c G vwCl A n0 s0 ad0 false zFT zFK zEL cs zSC 2 d (.inl 0, tH D1) pc L S (tH D)
  | 0, _, _, _, _, _, _, h => by cases h
  | f + 1, pc, L, S, D, D1, hL, h => by
    replace h : (match (generalizing := false) drow rows pc with | none => none | some q => dins Φ (drun Φ rows f) pc q.2.2.1 q.2.2.2.2.2 L S D) = some D1 := h
    split at h
    · cases h
    · rename_i q hq
      have hm : q ∈ rows := List.mem_of_find?_eq_some hq
      have hp : q.1 = pc := Nat.eq_of_beq_eq_true (List.find?_some (p := fun q : zRow => Nat.beq q.1 pc) hq)
      subst hp
      obtain ⟨g1, g2, g3⟩ := hg q hm
      exact dins_sound hx hb hK hA hts hown hml hlo hret hnm hd4 hZ hR hAO hAA hΦ (drun_sound hx hb hK hA hts hown hml hlo hret hnm hd4 hZ hR hAO hAA hΦ hg f) g1 g2 g3 hL h
set_option maxHeartbeats 4000000 in
theorem dcal_sound {l : Launch} {aK aV : Nat → Nat} {vf : Option Nat} : ∀ d, dPs l aK aV vf (d + 4) (dcal d)
  | 0 => fun y r D D1 hz => by cases hz
  | d + 1 => by
    intro y r D D1 hz
    refine ⟨dcal_ext _ _ _ _ _ hz, ?_⟩
    have hz0 : drun (dcal d) (dMT y).2.2.2.2.2.1 20000 0 (zpad (dMT y).2.2.1 [some (zrf r (dKd y) 0)]) [] D = some D1 := hz
    cases hy : dYf y with
    | false =>
      rw [dMT_no hy] at hz0
      exact absurd (hz0.symm.trans drun_nil) (fun z => by cases z)
    | true =>
      obtain ⟨y1, y2, y3, y4, y5⟩ := dy_all hy
      intro hWF hr h0 G cs ad sz
      have e : ([.ref (ad r.toNat)] : List Value) = ([zrf r (dKd y) 0] : List zV).map (zc ad) := by rw [List.map_cons, zcr h0]; rfl
      rw [e]
      have hlen : (zpad (dMT y).2.2.1 (zloc [zrf r (dKd y) 0])).length = (dMT y).2.2.1 := by
        unfold zpad
        rw [List.length_append, List.length_replicate]
        show 1 + ((dMT y).2.2.1 - 1) = _
        omega
      refine Met.ofW (cc := (dMT y).2.1) (maxL := (dMT y).2.2.1) (ret := none) y5 rfl ?_
      intro p e s m args below meth c s₁ B hml hv
      obtain ⟨rfl, ⟨hsz, hP, hK, hD0⟩, hZ, hR, hAO, hAA⟩ := hv
      have hts0 := atoms_spec (ws := .code (dMT y).1 (dMT y).2.1 (dMT y).2.2.1 none :: lw_g) B.pre
      have hts : ∀ w ∈ lw_g, w.before (([zrf r (dKd y) 0] : List zV).map (zc ad)).toArray s = true := fun w hw => hts0 w (List.mem_cons_of_mem _ hw)
      have hown : s.vm.findClass (dMT y).1.cls = some m.cls := findClass_of_methodNamed B.named
      have hin : meth.name = "<init>" := (name_of_methodNamed B.named B.method).1.trans y3
      subst hsz
      have hD := hD0.self (sz := s.heap.size)
      have kk := (drun_sound (l := l) (e := e) (below := below) (n0 := zn (tH D)) (s0 := zsl (tH D)) (ad0 := ad) (A := va_A (zw zFT cs ad (tH D)) s.heap.size) B.exec B.bytes hK (fun q hq => Or.inr hq) hts hown hml B.notSynchronized B.returns hin (show 4 ≤ d + 4 by omega) hZ hR hAO hAA (dcal_sound d) (dgd_all hy) 20000 0 _ [] D D1 hlen hz0).2
      rw [lg_entry_eq]
      have hl : zLs ad ((lg_sl (([zrf r (dKd y) 0] : List zV).map (zc ad)) ++ List.replicate ((dMT y).2.2.1 - (lg_sl (([zrf r (dKd y) 0] : List zV).map (zc ad))).length) Slot.unset).toArray) (zpad (dMT y).2.2.1 (zloc [zrf r (dKd y) 0])) := zLs_of (lv_entry (([zrf r (dKd y) 0] : List zV).map (zc ad)) (by rw [zloc_len]; exact y4)) hlen.symm (fun i v hv => by
        have := zloc_args ad [zrf r (dKd y) 0] 0 i v (zpad_gd hv)
        rwa [Nat.zero_add] at this)
      have hNa : zNS (tH D) [zrf r (dKd y) 0] := zNS_c hr (fun v hv => by cases hv)
      have k3 := kk ad s.heap [] _ ⟨hWF, ⟨Nat.le_refl _, Nat.le_refl _, fun _ _ => rfl⟩, hP, hD, va_S.rf⟩ (fun i v hv => zloc_in hNa i v (zpad_gd hv)) (fun v hv => by cases hv) hl
      rw [Nat.sub_self, Nat.sub_self] at k3
      exact k3
