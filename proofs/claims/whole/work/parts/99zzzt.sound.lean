/-! the making machine is sound -/
def dYf (y : Nat) : Bool := Nat.beq y 0 || (Nat.beq y 8 || (Nat.beq y 11 || (Nat.beq y 24 || (Nat.beq y 37 || (Nat.beq y 41 || (Nat.beq y 52 || (Nat.beq y 60 || (Nat.beq y 74 || (Nat.beq y 91 || (Nat.beq y 103 || (Nat.beq y 123 || (Nat.beq y 201))))))))))))
def dYok (y : Nat) : Prop := zCal lw_g (dMT y).1 (dMT y).2.1 (dMT y).2.2.1 none 0 ∧ Cond.instanceMethod (dMT y).1 ∈ lw_g ∧ (dMT y).1.name = "<init>" ∧ (1 ≤ (dMT y).2.2.1 ∧ plainName (dMT y).1.cls = true)
set_option maxRecDepth 10000 in
theorem dcm_0 : Cond.code ⟨"BoulderDowry$CrewSearch", "<init>", "()V"⟩ prog_2_method_1_code 2 none ∈ lw_tbl := tbi_3 (List.mem_of_getElem? (i := 49) rfl)
theorem dy_0 : dYok 0 := ⟨zCal_g ⟨⟨dcm_0, List.mem_of_getElem? (i := 198) (by decide +kernel)⟩, ⟨by decide +kernel, by decide +kernel, by decide +kernel⟩, by decide +kernel⟩, lw_gi (List.mem_of_getElem? (i := 710) (by decide +kernel)) rfl, rfl, by decide +kernel, by decide +kernel⟩
set_option maxRecDepth 10000 in
theorem dcm_1 : Cond.code ⟨"BoulderDowry$History", "<init>", "()V"⟩ prog_3_method_1_code 2 none ∈ lw_tbl := tbi_2 (List.mem_of_getElem? (i := 152) rfl)
theorem dy_1 : dYok 8 := ⟨zCal_g ⟨⟨dcm_1, List.mem_of_getElem? (i := 194) (by decide +kernel)⟩, ⟨by decide +kernel, by decide +kernel, by decide +kernel⟩, by decide +kernel⟩, lw_gi (List.mem_of_getElem? (i := 573) (by decide +kernel)) rfl, rfl, by decide +kernel, by decide +kernel⟩
set_option maxRecDepth 10000 in
theorem dcm_2 : Cond.code ⟨"BoulderDowry$LawBook", "<init>", "()V"⟩ prog_4_method_1_code 1 none ∈ lw_tbl := tbi_1 (List.mem_of_getElem? (i := 185) rfl)
theorem dy_2 : dYok 11 := ⟨zCal_g ⟨⟨dcm_2, List.mem_of_getElem? (i := 192) (by decide +kernel)⟩, ⟨by decide +kernel, by decide +kernel, by decide +kernel⟩, by decide +kernel⟩, lw_gi (List.mem_of_getElem? (i := 366) (by decide +kernel)) rfl, rfl, by decide +kernel, by decide +kernel⟩
set_option maxRecDepth 10000 in
theorem dcm_3 : Cond.code ⟨"BoulderDowry$LawReader", "<init>", "()V"⟩ prog_5_method_1_code 1 none ∈ lw_tbl := tbi_1 (List.mem_of_getElem? (i := 153) rfl)
theorem dy_3 : dYok 24 := ⟨zCal_g ⟨⟨dcm_3, List.mem_of_getElem? (i := 190) (by decide +kernel)⟩, ⟨by decide +kernel, by decide +kernel, by decide +kernel⟩, by decide +kernel⟩, lw_gi (List.mem_of_getElem? (i := 334) (by decide +kernel)) rfl, rfl, by decide +kernel, by decide +kernel⟩
set_option maxRecDepth 10000 in
theorem dcm_4 : Cond.code ⟨"BoulderDowry$Ledger", "<init>", "()V"⟩ prog_6_method_1_code 1 none ∈ lw_tbl := tbi_2 (List.mem_of_getElem? (i := 171) rfl)
theorem dy_4 : dYok 37 := ⟨zCal_g ⟨⟨dcm_4, List.mem_of_getElem? (i := 195) (by decide +kernel)⟩, ⟨by decide +kernel, by decide +kernel, by decide +kernel⟩, by decide +kernel⟩, lw_gi (List.mem_of_getElem? (i := 592) (by decide +kernel)) rfl, rfl, by decide +kernel, by decide +kernel⟩
set_option maxRecDepth 10000 in
theorem dcm_5 : Cond.code ⟨"BoulderDowry$Mover", "<init>", "()V"⟩ prog_7_method_1_code 1 none ∈ lw_tbl := tbi_2 (List.mem_of_getElem? (i := 181) rfl)
theorem dy_5 : dYok 41 := ⟨zCal_g ⟨⟨dcm_5, List.mem_of_getElem? (i := 196) (by decide +kernel)⟩, ⟨by decide +kernel, by decide +kernel, by decide +kernel⟩, by decide +kernel⟩, lw_gi (List.mem_of_getElem? (i := 602) (by decide +kernel)) rfl, rfl, by decide +kernel, by decide +kernel⟩
set_option maxRecDepth 10000 in
theorem dcm_6 : Cond.code ⟨"BoulderDowry$NetSearch", "<init>", "()V"⟩ prog_8_method_1_code 1 none ∈ lw_tbl := tbi_3 (List.mem_of_getElem? (i := 13) rfl)
theorem dy_6 : dYok 52 := ⟨zCal_g ⟨⟨dcm_6, List.mem_of_getElem? (i := 197) (by decide +kernel)⟩, ⟨by decide +kernel, by decide +kernel, by decide +kernel⟩, by decide +kernel⟩, lw_gi (List.mem_of_getElem? (i := 674) (by decide +kernel)) rfl, rfl, by decide +kernel, by decide +kernel⟩
set_option maxRecDepth 10000 in
theorem dcm_7 : Cond.code ⟨"BoulderDowry$Slope", "<init>", "()V"⟩ prog_9_method_1_code 1 none ∈ lw_tbl := tbi_1 (List.mem_of_getElem? (i := 177) rfl)
theorem dy_7 : dYok 60 := ⟨zCal_g ⟨⟨dcm_7, List.mem_of_getElem? (i := 191) (by decide +kernel)⟩, ⟨by decide +kernel, by decide +kernel, by decide +kernel⟩, by decide +kernel⟩, lw_gi (List.mem_of_getElem? (i := 358) (by decide +kernel)) rfl, rfl, by decide +kernel, by decide +kernel⟩
set_option maxRecDepth 10000 in
theorem dcm_8 : Cond.code ⟨"BoulderDowry$SlopeReader", "<init>", "()V"⟩ prog_10_method_1_code 1 none ∈ lw_tbl := tbi_1 (List.mem_of_getElem? (i := 35) rfl)
theorem dy_8 : dYok 74 := ⟨zCal_g ⟨⟨dcm_8, List.mem_of_getElem? (i := 184) (by decide +kernel)⟩, ⟨by decide +kernel, by decide +kernel, by decide +kernel⟩, by decide +kernel⟩, lw_gi (List.mem_of_getElem? (i := 216) (by decide +kernel)) rfl, rfl, by decide +kernel, by decide +kernel⟩
set_option maxRecDepth 10000 in
theorem dcm_9 : Cond.code ⟨"BoulderDowry$State", "<init>", "()V"⟩ prog_11_method_1_code 1 none ∈ lw_tbl := tbi_2 (List.mem_of_getElem? (i := 93) rfl)
theorem dy_9 : dYok 91 := ⟨zCal_g ⟨⟨dcm_9, List.mem_of_getElem? (i := 193) (by decide +kernel)⟩, ⟨by decide +kernel, by decide +kernel, by decide +kernel⟩, by decide +kernel⟩, lw_gi (List.mem_of_getElem? (i := 514) (by decide +kernel)) rfl, rfl, by decide +kernel, by decide +kernel⟩
set_option maxRecDepth 10000 in
theorem dcm_10 : Cond.code ⟨"BoulderDowry$Tokens", "<init>", "()V"⟩ prog_12_method_1_code 5 none ∈ lw_tbl := tbi_1 (List.mem_of_getElem? (i := 41) rfl)
theorem dy_10 : dYok 103 := ⟨zCal_g ⟨⟨dcm_10, List.mem_of_getElem? (i := 185) (by decide +kernel)⟩, ⟨by decide +kernel, by decide +kernel, by decide +kernel⟩, by decide +kernel⟩, lw_gi (List.mem_of_getElem? (i := 222) (by decide +kernel)) rfl, rfl, by decide +kernel, by decide +kernel⟩
set_option maxRecDepth 10000 in
theorem dcm_11 : Cond.code ⟨"BoulderDowry", "<init>", "()V"⟩ prog_1_method_1_code 2 none ∈ lw_tbl := tbi_1 (List.mem_of_getElem? (i := 27) rfl)
theorem dy_11 : dYok 123 := ⟨zCal_g ⟨⟨dcm_11, List.mem_of_getElem? (i := 183) (by decide +kernel)⟩, ⟨by decide +kernel, by decide +kernel, by decide +kernel⟩, by decide +kernel⟩, lw_gi (List.mem_of_getElem? (i := 208) (by decide +kernel)) rfl, rfl, by decide +kernel, by decide +kernel⟩
set_option maxRecDepth 10000 in
theorem dcm_12 : Cond.code ⟨"BoulderDowryModel", "<init>", "()V"⟩ prog_14_method_1_code 1 none ∈ lw_tbl := tbi_7 (List.mem_of_getElem? (i := 20) rfl)
theorem dy_12 : dYok 201 := ⟨zCal_g ⟨⟨dcm_12, List.mem_of_getElem? (i := 199) (by decide +kernel)⟩, ⟨by decide +kernel, by decide +kernel, by decide +kernel⟩, by decide +kernel⟩, lw_gi (List.mem_of_getElem? (i := 1641) (by decide +kernel)) rfl, rfl, by decide +kernel, by decide +kernel⟩
theorem dy_all {y : Nat} (h : dYf y = true) : dYok y := by
  unfold dYf at h
  simp only [Bool.or_eq_true] at h
  rcases h with h | h | h | h | h | h | h | h | h | h | h | h | h
  · rw [Nat.eq_of_beq_eq_true h]; exact dy_0
  · rw [Nat.eq_of_beq_eq_true h]; exact dy_1
  · rw [Nat.eq_of_beq_eq_true h]; exact dy_2
  · rw [Nat.eq_of_beq_eq_true h]; exact dy_3
  · rw [Nat.eq_of_beq_eq_true h]; exact dy_4
  · rw [Nat.eq_of_beq_eq_true h]; exact dy_5
  · rw [Nat.eq_of_beq_eq_true h]; exact dy_6
  · rw [Nat.eq_of_beq_eq_true h]; exact dy_7
  · rw [Nat.eq_of_beq_eq_true h]; exact dy_8
  · rw [Nat.eq_of_beq_eq_true h]; exact dy_9
  · rw [Nat.eq_of_beq_eq_true h]; exact dy_10
  · rw [Nat.eq_of_beq_eq_true h]; exact dy_11
  · rw [Nat.eq_of_beq_eq_true h]; exact dy_12
theorem dw_oi : Cond.instanceMethod objectInit ∈ lw_g := lw_gi (List.mem_of_getElem? (i := 211) (by decide +kernel)) rfl
theorem dw_oc : Cond.code objectInit ⟨#[0xb1]⟩ 1 none ∈ lw_g := lw_gi (List.mem_of_getElem? (i := 212) (by decide +kernel)) rfl
theorem dw_ai : Cond.arrayClass .int ∈ lw_g := lw_gi (List.mem_of_getElem? (i := 329) (by decide +kernel)) rfl
theorem dw_al : Cond.arrayClass .long ∈ lw_g := lw_gi (List.mem_of_getElem? (i := 1927) (by decide +kernel)) rfl
theorem dw_az : Cond.arrayClass .boolean ∈ lw_g := lw_gi (List.mem_of_getElem? (i := 1928) (by decide +kernel)) rfl
theorem dw_aa : Cond.arrayOver (.array .int) ∈ lw_tbl := (List.mem_of_getElem? (i := 362) (by decide +kernel))
theorem dw_as : Cond.arrayOver (.object zSC) ∈ lw_tbl := (List.mem_of_getElem? (i := 569) (by decide +kernel))
def dIb (own : String) (cc : ByteArray) (pc : Nat) (ins : Instr) (ax : List Int) : Bool := match ins with
  | .return_ => true
  | .new idx => match ax with
    | ci :: _ :: p :: _ => zat p (Cond.classLink own idx (zRX ci.toNat))
    | _ => false
  | .newarray t => match t with
    | .int => decide (ax.getD 0 0 = 100)
    | .long => decide (ax.getD 0 0 = 101)
    | .boolean => decide (ax.getD 0 0 = 102)
    | _ => false
  | .anewarray idx => zat (ax.getD 0 0) (Cond.classLink own idx zSC)
  | .multianewarray idx dims => Nat.beq dims 2 && zat (ax.getD 0 0) (Cond.classLink own idx ("[" ++ (FieldType.array .int).toString))
  | .aastore => true
  | .putfield idx => zFob own idx ax && (!(decide (ax.getD 2 0 = 4)) || decide (own = zRX (ax.getD 0 0).toNat))
  | .invokespecial idx => match ax with
    | y :: _ :: _ :: _ :: p :: _ => match decide (y < 0) with
      | true => zat p (Cond.methodLink own idx objectInit)
      | false => dYf y.toNat && zat p (Cond.methodLink own idx (dMT y.toNat).1)
    | _ => false
  | .ldc idx => decide (own = "BoulderDowry$Tokens") && (Nat.beq idx 28 && (match decide (ax.getD 0 0 = 0) with
    | true => decide (decode cc (pc + 2) = .ok (.invokevirtual 30, 3))
    | false => decide (decode cc (pc + 2) = .ok (.iload_n 3, 1)) && decide (decode cc (pc + 3) = .ok (.invokevirtual 36, 3))))
  | .invokestatic idx => decide (own = "BoulderDowry$Tokens") && Nat.beq idx 40
  | ins => zIb own 2 pc ins ax
def dlnb (ins : Instr) (len : Nat) : Bool := match ins with
  | .multianewarray _ _ => Nat.beq len 4
  | i => Nat.beq len (zlen i)
def dPs (l : Launch) (aK aV : Nat → Nat) (vf : Option Nat) (d : Nat) (Φ : Nat → Int → zD → Option zD) : Prop := ∀ y r D D1, Φ y r D = some D1 → zExt (tH D) (tH D1) ∧ dMet l aK aV vf d (dMT y) r (dKd y) (tH D) (tH D1)
theorem zrm {h h1 : zH} {kd len : Int} {sl : Nat} {df : Int → Int} {n0 s0 : Nat} (hx : zExt (znew h kd len sl df) h1) (h0 : 0 ≤ h (-1) 0) (hs : 0 ≤ h (-1) 1) : zn h + 1 - n0 ≤ zn h1 - n0 ∧ zsl h + sl - s0 ≤ zsl h1 - s0 := by
  have a := hx.1
  have b := hx.2.1
  rw [znew_n] at a
  rw [znew_s] at b
  unfold zn zsl
  omega
theorem tH_arr {D : zD} {k w : Nat} (hk : 100 ≤ k) : tH (D ++ [((k : Int), (w : Int), [])]) = znew (tH D) k w w (fun _ => ddf k) := by
  rw [tH_app, dcv_arr]
  have e : dsl ((k : Int), (w : Int), []) = w := by
    unfold dsl
    rw [if_neg (show ¬ (k : Int) < 100 by omega)]
  rw [e]
theorem h4m_ext (h : zH) (h0 : 0 ≤ h (-1) 0) : zExt h (h4m h) := by
  unfold h4m
  exact (((zExt_new (by omega)).tr (zExt_new (by omega))).tr (zExt_new (by omega))).tr (zExt_new (by omega))
theorem h4m_rm {h h1 : zH} {n0 s0 : Nat} (hx : zExt (h4m h) h1) (h0 : 0 ≤ h (-1) 0) (hs : 0 ≤ h (-1) 1) : zn h + 4 - n0 ≤ zn h1 - n0 ∧ zsl h + 33 - s0 ≤ zsl h1 - s0 := by
  have a := hx.1
  have b := hx.2.1
  unfold h4m at a b
  rw [znew_n, znew_n, znew_n, znew_n] at a
  rw [znew_s, znew_s, znew_s, znew_s] at b
  unfold zn zsl
  omega
theorem tH_mna (D : zD) : tH ((((D ++ [(100, 10, [])]) ++ [(100, 10, [])]) ++ [(100, 10, [])]) ++ [(104, 3, [(D.length : Int), (D.length + 1 : Nat), (D.length + 2 : Nat)])]) = h4m (tH D) := by
  unfold h4m
  rw [tH_app, show ((100 : Int), (10 : Int), ([] : List Int)) = (((100 : Nat) : Int), ((10 : Nat) : Int), []) from rfl, tH_arr (by omega), tH_arr (by omega), tH_arr (by omega), tH_n]
  have e : dcv (104, 3, [(D.length : Int), (D.length + 1 : Nat), (D.length + 2 : Nat)]) = dfm (D.length : Int) := by
    funext j
    unfold dcv dfm ddf
    simp only [List.length_cons, List.length_nil]
    by_cases j0 : j = 0
    · subst j0; rfl
    · by_cases j1 : j = 1
      · subst j1; simp
      · by_cases j2 : j = 2
        · subst j2; simp
        · rw [if_neg (by omega), if_neg j0, if_neg j1, if_neg j2]
          rfl
  rw [e]
  rfl
theorem dgi_get {L : zL} {n : Nat} {a : Int} (h : dgi L n = some a) : L.getD n none = some (.inl a) := by
  unfold dgi at h
  split at h
  · rename_i x e; cases h; exact e
  · cases h
theorem zFob_get {own : String} {idx : Nat} {ci j ty kd len off p : Int} {tl : List Int} (h : zFob own idx (ci :: j :: ty :: kd :: len :: off :: p :: tl) = true) : (0 ≤ ci ∧ ci < 13 ∧ 0 ≤ j ∧ 0 ≤ ty ∧ 0 ≤ kd ∧ 0 ≤ len) ∧ Cond.fieldLink own idx (zTX ci.toNat j.toNat).1 (zTX ci.toNat j.toNat).2.1 (zTX ci.toNat j.toNat).2.2.1 ∈ lw_g ∧ (zFT ci.toNat)[j.toNat]? = some ty.toNat ∧ zFK ci.toNat j.toNat = (kd.toNat, len.toNat, off) := by
  obtain ⟨h1, h2⟩ := zand2 (a := decide (0 ≤ ci ∧ ci < 13 ∧ 0 ≤ j ∧ 0 ≤ ty ∧ 0 ≤ kd ∧ 0 ≤ len)) h
  obtain ⟨h2, h3⟩ := zand2 h2
  obtain ⟨h3, h4⟩ := zand2 h3
  exact ⟨of_decide_eq_true h1, lw_gi (zat_ok h2) rfl, of_decide_eq_true h3, of_decide_eq_true h4⟩
theorem dpv_ok {ty : Nat} {v : zV} {kd len : Nat} {x : Int} (h : dpv ty v kd len = some x) : (∀ ad, zc ad v = zfv ad ty x) ∧ ∀ (hh : zH) (k : Nat) (off : Int), zN hh v → zFo false hh k ty (kd, len, off) x := by
  unfold dpv at h
  split at h
  · cases h
    exact ⟨fun ad => rfl, fun hh k off hn => ⟨fun _ => hn, (fun z => by cases z), (fun z => by cases z), fun z => absurd z (by decide), (fun z => by cases z)⟩⟩
  · cases h
    exact ⟨fun ad => rfl, fun hh k off hn => ⟨(fun z => by cases z), fun _ => hn, (fun z => by cases z), fun z => absurd z (by decide), (fun z => by cases z)⟩⟩
  · rename_i y
    split at h
    · rename_i e
      cases h
      exact ⟨fun ad => rfl, fun hh k off hn => ⟨(fun z => by cases z), (fun z => by cases z), fun _ => of_decide_eq_true e, fun z => absurd z (by decide), (fun z => by cases z)⟩⟩
    · cases h
  · split at h
    · rename_i e
      cases h
      obtain ⟨e1, e2⟩ := zand2 e
      obtain rfl := Nat.eq_of_beq_eq_true e1
      obtain rfl := Nat.eq_of_beq_eq_true e2
      exact ⟨fun ad => rfl, fun hh k off hn => ⟨(fun z => by cases z), (fun z => by cases z), (fun z => by cases z), fun _ => hn, (fun z => by cases z)⟩⟩
    · cases h
  · split at h
    · rename_i e
      cases h
      obtain ⟨e1, e2⟩ := zand2 e
      obtain rfl := Nat.eq_of_beq_eq_true e1
      obtain rfl := Nat.eq_of_beq_eq_true e2
      exact ⟨fun ad => rfl, fun hh k off hn => ⟨(fun z => by cases z), (fun z => by cases z), (fun z => by cases z), fun _ => hn, (fun _ z => by cases z)⟩⟩
    · cases h
  · cases h
theorem zIok_f {own : String} {rk : Int} {pc : Nat} {ins : Instr} {ax : List Int} {L : zL} {S : List zV} {D : zD} {q : Nat × zL × List zV × zD} (hq : dz pc ins ax L S D = some q) (h : zIok true lw_tbl vwCl zFT zFK zMT own rk pc ins ax) : zIok false lw_g vwCl zFT zFK (fun _ => zM0) own rk pc ins ax := by
  cases ins with
  | getfield _ => exact zFok_g h
  | _ => first | (cases hq; done) | exact h
noncomputable def zone (pc1 : Nat) (L1 : zL) (S1 : List zV) (h1 : zH) (r1 : zV × zH) : zC := fun pc L S h => Classical.epsilon (fun x : zR => ∀ r, x = some r ↔ (pc = pc1 ∧ L = L1 ∧ S = S1 ∧ h = h1 ∧ r = r1))
theorem zone_iff {pc1 : Nat} {L1 : zL} {S1 : List zV} {h1 : zH} {r1 : zV × zH} {pc : Nat} {L : zL} {S : List zV} {h : zH} {r : zV × zH} : zone pc1 L1 S1 h1 r1 pc L S h = some r ↔ (pc = pc1 ∧ L = L1 ∧ S = S1 ∧ h = h1 ∧ r = r1) := by
  have hex : ∃ x : zR, ∀ r, x = some r ↔ (pc = pc1 ∧ L = L1 ∧ S = S1 ∧ h = h1 ∧ r = r1) := by
    by_cases q : pc = pc1 ∧ L = L1 ∧ S = S1 ∧ h = h1
    · exact ⟨some r1, fun r => ⟨fun e => by cases e; exact ⟨q.1, q.2.1, q.2.2.1, q.2.2.2, rfl⟩, fun e => by rw [e.2.2.2.2]⟩⟩
    · exact ⟨none, fun r => ⟨(fun e => by cases e), fun e => absurd ⟨e.1, e.2.1, e.2.2.1, e.2.2.2.1⟩ q⟩⟩
  exact Classical.epsilon_spec hex r
theorem zone_ks {p : Program} {l : Launch} {e : Env} {s : State} {m : MethodId} {args : Array Value} {below : List Frame} {meth : Method} {c : Code} {G : va_G} {A : Nat → Prop} {n0 s0 : Nat} {ad0 : Nat → Nat} {cs : Nat → ClassId} {d nL pc1 : Nat} {L L1 : zL} {S1 : List zV} {D2 D1 : zD} (hl1 : L1.length = L.length) (hL : L.length = nL) (k1 : zExt (tH D2) (tH D1)) (k2 : zA p l e s m args below meth c G vwCl A n0 s0 ad0 false zFT zFK zEL cs zSC 2 d (.inl 0, tH D1) pc1 L1 S1 (tH D2)) : zKs p l e s m args below meth c G vwCl A n0 s0 ad0 false zFT zFK zEL cs zSC 2 d nL (zone pc1 L1 S1 (tH D2) (.inl 0, tH D1)) := by
  intro pc L S h res _ hz
  obtain ⟨rfl, rfl, rfl, rfl, rfl⟩ := zone_iff.mp hz
  exact ⟨k1, k2⟩
set_option maxHeartbeats 4000000 in
theorem dins_sound {p : Program} {l : Launch} {e : Env} {s : State} {m : MethodId} {args : Array Value} {below : List Frame} {meth : Method} {c : Code} {G : va_G} {A : Nat → Prop} {n0 s0 : Nat} {ad0 : Nat → Nat} {cs : Nat → ClassId} {d : Nat} {cc : ByteArray} {aK aV : Nat → Nat} {vf : Option Nat} (hx : p.tables.exec = Jvm.exec) (hb : c.code = cc) (hK : va_K G vwCl (ztys cs zSC) s) (hA : ∀ q, s.heap.size ≤ q → A q) (hts : ∀ w ∈ lw_g, w.before args s = true) {own : String} (hown : s.vm.findClass own = some m.cls) {nL : Nat} (hml : c.maxLocals = nL) (hlo : meth.locks = false) (hret : meth.sig.returnType = none) (hnm : meth.name = "<init>") (hd4 : 4 ≤ d) (hZ : zStr A aK aV vf s s.heap) (hR : vk_R "BoulderDowry$Tokens" 28 sown (aK 0) s) (hAO : va_AO zSC s) (hAA : zAOA s) {Φ : Nat → Int → zD → Option zD} (hΦ : dPs l aK aV vf d Φ) {K : zDK} (hKK : ∀ pc L S D D1, L.length = nL → K pc L S D = some D1 → zExt (tH D) (tH D1) ∧ zA p l e s m args below meth c G vwCl A n0 s0 ad0 false zFT zFK zEL cs zSC 2 d (.inl 0, tH D1) pc L S (tH D)) {pc len : Nat} {ins : Instr} {ax : List Int} (hd : decode cc pc = .ok (ins, len)) (hlen : dlnb ins len = true) (hI : dIb own cc pc ins ax = true) {L : zL} {S : List zV} {D D1 : zD} (hL : L.length = nL) (hz : dins Φ K pc ins ax L S D = some D1) : zExt (tH D) (tH D1) ∧ zA p l e s m args below meth c G vwCl A n0 s0 ad0 false zFT zFK zEL cs zSC 2 d (.inl 0, tH D1) pc L S (tH D) := by
  have oth : dOth K pc ins ax L S D = some D1 → zlnb ins len = true → zIb own 2 pc ins ax = true → zExt (tH D) (tH D1) ∧ zA p l e s m args below meth c G vwCl A n0 s0 ad0 false zFT zFK zEL cs zSC 2 d (.inl 0, tH D1) pc L S (tH D) := by
    intro hz hlen hI
    unfold dOth at hz
    split at hz
    · rename_i pc1 L1 S1 D2 hq
      split at hz
      · rename_i hl1
        have hl1 := Nat.eq_of_beq_eq_true hl1
        obtain ⟨k1, k2⟩ := hKK _ _ _ _ _ (hl1.trans hL) hz
        refine zins_sound (SC := zSC) (EL := zEL) (MT := fun _ => zM0) (Φ := fun _ _ _ => none) (rk := 2) (res := (.inl 0, tH D1)) hx hb hK hA hts lw_good hown hml hlo hret (fun _ _ _ _ h => by cases h) (kf := zone pc1 L1 S1 (tH D2) (.inl 0, tH D1)) (kj := zone pc1 L1 S1 (tH D2) (.inl 0, tH D1)) (zone_ks hl1 hL k1 k2) (zone_ks hl1 hL k1 k2) hd (zlnb_ok hlen) (zIok_f hq (zIb_ok hI)) hL ?_
        rw [dz_ok hq]
        exact zone_iff.mpr ⟨rfl, rfl, rfl, rfl, rfl⟩
      · cases hz
    · cases hz
  cases ins with
  | return_ =>
    replace hz : dRet S D = some D1 := hz
    unfold dRet at hz
    split at hz
    · cases hz
      refine ⟨zExt.rf _, ?_⟩
      have e : len = 1 := Nat.eq_of_beq_eq_true hlen
      subst e
      exact zs_vreturn (S := []) hx hb hK hlo hret hd
    · cases hz
  | new idx =>
    replace hz : dNew K pc ax L S D = some D1 := hz
    have e : len = 3 := Nat.eq_of_beq_eq_true hlen
    subst e
    unfold dNew at hz
    split at hz
    · rename_i ci tl
      split at hz
      · rename_i hci
        have hci := of_decide_eq_true hci
        obtain ⟨k1, k2⟩ := hKK _ _ _ _ _ hL hz
        cases tl with
        | nil => cases hI
        | cons t1 tl =>
          cases tl with
          | nil => cases hI
          | cons t2 tl =>
            have hlk : Cond.classLink own idx (zRX ci.toNat) ∈ lw_tbl := zat_ok (show zat t2 (Cond.classLink own idx (zRX ci.toNat)) = true from hI)
            have hcl := zClok_g (clk_all ci.toNat (by omega))
            have eN : (zFT ci.toNat).length = zNX ci.toNat := hcl.2.1
            have e1 : tH (D ++ [(ci, 0, (zFT ci.toNat).map dfd)]) = znew (tH D) (ci.toNat : Nat) (0 : Nat) (zNX ci.toNat : Nat) (zdf (zFT ci.toNat)) := by
              rw [tH_app]
              have e2 : dcv (ci, 0, (zFT ci.toNat).map dfd) = zdf (zFT ci.toNat) := by
                have := dcv_obj (ci := ci.toNat) (ts := zFT ci.toNat) (by omega)
                rwa [Int.toNat_of_nonneg hci.1] at this
              have e3 : dsl (ci, 0, (zFT ci.toNat).map dfd) = (zNX ci.toNat : Nat) := by
                unfold dsl
                rw [if_pos (show ci < 100 by omega), List.length_map, eN]
              rw [e2, e3, Int.toNat_of_nonneg hci.1]
              rfl
            rw [e1] at k1 k2
            refine ⟨(zExt_new (by omega)).tr k1, zs_new hx hb hK hA hts hown hcl (by omega) (lw_gi hlk rfl) (fun z => zrm k1 (by rw [tH_n]; omega) z) hd ?_⟩
            rw [tH_n]
            exact k2
      · cases hz
    · cases hz
  | newarray t =>
    replace hz : dNewa K pc ax L S D = some D1 := hz
    have e : len = 2 := Nat.eq_of_beq_eq_true hlen
    subst e
    unfold dNewa at hz
    split at hz
    · rename_i kd tl n S
      split at hz
      · rename_i hn
        have hn := of_decide_eq_true hn
        obtain ⟨k1, k2⟩ := hKK _ _ _ _ _ hL hz
        obtain ⟨w, rfl⟩ : ∃ w : Nat, n = w := ⟨n.toNat, (Int.toNat_of_nonneg hn.1).symm⟩
        rw [Int.toNat_natCast] at k2
        cases t with
        | int =>
          obtain rfl : kd = 100 := of_decide_eq_true (show decide (kd = 100) = true from hI)
          rw [show ((100 : Int), (w : Int), ([] : List Int)) = (((100 : Nat) : Int), (w : Int), []) from rfl, tH_arr (by omega)] at k1 k2
          refine ⟨(zExt_new (by omega)).tr k1, zs_newai hx hb hK hA (hts _ dw_ai) (by omega) (fun z => zrm k1 (by rw [tH_n]; omega) z) hd ?_⟩
          rw [tH_n]
          exact k2
        | long =>
          obtain rfl : kd = 101 := of_decide_eq_true (show decide (kd = 101) = true from hI)
          rw [show ((101 : Int), (w : Int), ([] : List Int)) = (((101 : Nat) : Int), (w : Int), []) from rfl, tH_arr (by omega)] at k1 k2
          refine ⟨(zExt_new (by omega)).tr k1, zs_newal hx hb hK hA (hts _ dw_al) (by omega) (fun z => zrm k1 (by rw [tH_n]; omega) z) hd ?_⟩
          rw [tH_n]
          exact k2
        | boolean =>
          obtain rfl : kd = 102 := of_decide_eq_true (show decide (kd = 102) = true from hI)
          rw [show ((102 : Int), (w : Int), ([] : List Int)) = (((102 : Nat) : Int), (w : Int), []) from rfl, tH_arr (by omega)] at k1 k2
          refine ⟨(zExt_new (by omega)).tr k1, zs_newaz hx hb hK hA (hts _ dw_az) (by omega) (fun z => zrm k1 (by rw [tH_n]; omega) z) hd ?_⟩
          rw [tH_n]
          exact k2
        | _ => cases hI
      · cases hz
    · cases hz
  | anewarray idx =>
    replace hz : dNewq K pc L S D = some D1 := hz
    have e : len = 3 := Nat.eq_of_beq_eq_true hlen
    subst e
    have hlk : Cond.classLink own idx zSC ∈ lw_tbl := zat_ok (show zat (ax.getD 0 0) (Cond.classLink own idx zSC) = true from hI)
    unfold dNewq at hz
    split at hz
    · rename_i n S
      split at hz
      · rename_i hn
        have hn := of_decide_eq_true hn
        obtain ⟨k1, k2⟩ := hKK _ _ _ _ _ hL hz
        obtain ⟨w, rfl⟩ : ∃ w : Nat, n = w := ⟨n.toNat, (Int.toNat_of_nonneg hn.1).symm⟩
        rw [Int.toNat_natCast] at k2
        rw [show ((103 : Int), (w : Int), ([] : List Int)) = (((103 : Nat) : Int), (w : Int), []) from rfl, tH_arr (by omega)] at k1 k2
        refine ⟨(zExt_new (by omega)).tr k1, zs_newaq hx hb hK hA hown (hts _ (lw_gi hlk rfl)) (va_AO.use hAO) (by omega) (fun z => zrm k1 (by rw [tH_n]; omega) z) hd ?_⟩
        rw [tH_n]
        exact k2
      · cases hz
    · cases hz
  | multianewarray idx dims =>
    replace hz : dMna K pc L S D = some D1 := hz
    have e : len = 4 := Nat.eq_of_beq_eq_true hlen
    subst e
    obtain ⟨hI1, hI2⟩ := zand2 (a := Nat.beq dims 2) hI
    obtain rfl := Nat.eq_of_beq_eq_true hI1
    have hlk := zat_ok hI2
    unfold dMna at hz
    split at hz
    · rename_i b a S
      split at hz
      · rename_i hab
        obtain ⟨rfl, rfl⟩ := of_decide_eq_true hab
        obtain ⟨k1, k2⟩ := hKK _ _ _ _ _ hL hz
        rw [tH_mna] at k1 k2
        refine ⟨(h4m_ext _ (by rw [tH_n]; omega)).tr k1, zs_mna hx hb hK hA hown (hts _ (lw_gi hlk rfl)) (zAOA.use hAA) (hts _ dw_ai) rfl (fun z => h4m_rm k1 (by rw [tH_n]; omega) z) hd ?_⟩
        rw [tH_n]
        exact k2
      · cases hz
    · cases hz
  | aastore =>
    replace hz : dAst K pc L S D = some D1 := hz
    have e : len = 1 := Nat.eq_of_beq_eq_true hlen
    subst e
    unfold dAst at hz
    split at hz
    · rename_i v kv wv i r k w S
      split at hz
      · rename_i hq
        obtain ⟨h1, hq⟩ := zand2 hq
        obtain ⟨h2, hq⟩ := zand2 hq
        obtain ⟨h3, hq⟩ := zand2 hq
        obtain rfl := Nat.eq_of_beq_eq_true h1
        obtain rfl := Nat.eq_of_beq_eq_true h2
        obtain rfl := Nat.eq_of_beq_eq_true h3
        obtain ⟨g1, g2, g3, g4, g5, g6⟩ := of_decide_eq_true hq
        obtain ⟨k1, k2⟩ := hKK _ _ _ _ _ hL hz
        rw [tH_set g2 g3 g4 (fun z => by omega)] at k1 k2
        exact ⟨(zExt_set g2).tr k1, zs_aastq (ci := 9) (T := TX9) (N := 10) hx hb hK rfl (by omega) rfl g2 g1 g4 g5 hd k2⟩
      · cases hz
    · cases hz
  | putfield idx =>
    replace hz : dPut K pc ax L S D = some D1 := hz
    have e : len = 3 := Nat.eq_of_beq_eq_true hlen
    subst e
    obtain ⟨hI1, hI2⟩ := zand2 (a := zFob own idx ax) hI
    unfold dPut at hz
    split at hz
    · rename_i v r k w S ci j ty kd ln tl
      cases tl with
      | nil => cases hI1
      | cons off tl =>
        cases tl with
        | nil => cases hI1
        | cons p tl =>
          obtain ⟨⟨a1, a2, a3, a4, a5, a6⟩, f1, f2, f3⟩ := zFob_get hI1
          split at hz
          · rename_i hq
            obtain ⟨h1, h2⟩ := zand2 hq
            obtain ⟨g1, g2, g3, g4⟩ := of_decide_eq_true h2
            obtain rfl := Nat.eq_of_beq_eq_true h1
            split at hz
            · rename_i x hp
              obtain ⟨hv, hn⟩ := dpv_ok hp
              obtain ⟨k1, k2⟩ := hKK _ _ _ _ _ hL hz
              rw [tH_set g1 g2 g3 (fun _ => g4)] at k1 k2
              have hcl := zClok_g (clk_all ci.toNat (by omega))
              have ej : ((j.toNat : Nat) : Int) = j := Int.toNat_of_nonneg g3
              have hn2 : zN (tH D) v → zFo false (tH D) r.toNat ty.toNat (zFK ci.toNat j.toNat) x := fun z => by rw [f3]; exact hn _ _ _ z
              by_cases h4 : ty.toNat = 4
              · have ho : own = zRX ci.toNat := by
                  rcases Bool.or_eq_true_iff.mp hI2 with z | z
                  · rw [show (ci :: j :: ty :: kd :: ln :: off :: p :: tl).getD 2 0 = ty from rfl, decide_eq_true (show ty = 4 by omega)] at z
                    cases z
                  · exact of_decide_eq_true z
                refine ⟨(zExt_set g1).tr k1, zs_putfF (C := zRX ci.toNat) hx hb hK hts hown hcl (by omega) f1 f2 h4 hnm ho g1 hd hv hn2 ?_⟩
                rw [ej]
                exact k2
              · refine ⟨(zExt_set g1).tr k1, zs_putf hx hb hK hts hown hcl (by omega) f1 f2 h4 g1 hd hv hn2 ?_⟩
                rw [ej]
                exact k2
            · cases hz
          · cases hz
    · cases hz
  | invokespecial idx =>
    replace hz : dInv Φ K pc ax L S D = some D1 := hz
    have e : len = 3 := Nat.eq_of_beq_eq_true hlen
    subst e
    unfold dInv at hz
    split at hz
    · rename_i y tl r k w S
      split at hz
      · rename_i hq
        obtain ⟨h1, h2⟩ := zand2 hq
        have h0 := of_decide_eq_true h1
        have hcat := Nat.le_of_ble_eq_true h2
        cases tl with
        | nil => cases hI
        | cons t1 tl =>
          cases tl with
          | nil => cases hI
          | cons t2 tl =>
            cases tl with
            | nil => cases hI
            | cons t3 tl =>
              cases tl with
              | nil => cases hI
              | cons p tl =>
                replace hI : (match (generalizing := false) decide (y < 0) with | true => zat p (Cond.methodLink own idx objectInit) | false => dYf y.toNat && zat p (Cond.methodLink own idx (dMT y.toNat).1)) = true := hI
                split at hz
                · rename_i hy
                  rw [hy] at hI
                  obtain ⟨k1, k2⟩ := hKK _ _ _ _ _ hL hz
                  exact ⟨k1, zs_objI (SC := zSC) hx hb hts hown (hml.trans hL.symm) (lw_gi (zat_ok hI) rfl) dw_oi dw_oc h0 hcat ⟨by show 1 ≤ d + 1; omega, by show 64 ≤ 128 * (d + 1); omega⟩ hd k2⟩
                · rename_i hy
                  rw [hy] at hI
                  obtain ⟨hI1, hI2⟩ := zand2 hI
                  obtain ⟨y1, y2, y3, y4⟩ := dy_all hI1
                  split at hz
                  · rename_i hk
                    obtain ⟨hk1, hk2⟩ := zand2 hk
                    obtain rfl := Nat.eq_of_beq_eq_true hk1
                    obtain rfl := Nat.eq_of_beq_eq_true hk2
                    split at hz
                    · rename_i D2 hφ
                      obtain ⟨k1, k2⟩ := hKK _ _ _ _ _ hL hz
                      obtain ⟨x1, hM⟩ := hΦ _ _ _ _ hφ
                      have hmm := zn_mono k1
                      exact ⟨x1.tr k1, zs_callD hx hb hK hA hts hown (hml.trans hL.symm) hZ hR hAO hAA hM (lw_gi (zat_ok hI2) rfl) y2 y3 y1 h0 hcat ⟨Nat.le_refl _, Nat.le_refl _⟩ x1 ⟨Nat.sub_le_sub_right hmm.1 _, Nat.sub_le_sub_right hmm.2 _⟩ hd k2⟩
                    · cases hz
                  · cases hz
      · cases hz
    · cases hz
  | ldc idx =>
    replace hz : dLdc K pc ax L S D = some D1 := hz
    have e : len = 2 := Nat.eq_of_beq_eq_true hlen
    subst e
    obtain ⟨hI1, hI2⟩ := zand2 (a := decide (own = "BoulderDowry$Tokens")) hI
    obtain ⟨hI2, hI3⟩ := zand2 hI2
    have ho := of_decide_eq_true hI1
    obtain rfl := Nat.eq_of_beq_eq_true hI2
    unfold dLdc at hz
    split at hz
    · rename_i ha
      rw [ha] at hI3
      split at hz
      · rename_i hcat
        obtain ⟨k1, k2⟩ := hKK _ _ _ _ _ hL hz
        have hmm := zn_mono k1
        exact ⟨k1, zs_slen hx hb hK hA hts hown (hml.trans hL.symm) hZ hR hAO hAA ho (Nat.le_of_ble_eq_true hcat) ⟨by show 5 ≤ d + 1; omega, by show 640 ≤ 128 * (d + 1); omega⟩ ⟨Nat.sub_le_sub_right hmm.1 _, Nat.sub_le_sub_right hmm.2 _⟩ hd (of_decide_eq_true hI3) k2⟩
      · cases hz
    · rename_i ha
      rw [ha] at hI3
      obtain ⟨hI3, hI4⟩ := zand2 hI3
      split at hz
      · rename_i kx hg
        split at hz
        · rename_i hq
          obtain ⟨q1, q2⟩ := zand2 hq
          obtain ⟨k1, k2⟩ := hKK _ _ _ _ _ hL hz
          have hmm := zn_mono k1
          exact ⟨k1, zs_schr hx hb hK hA hts hown (hml.trans hL.symm) hZ hR hAO hAA ho (of_decide_eq_true q1) (Nat.le_of_ble_eq_true q2) ⟨by show 5 ≤ d + 1; omega, by show 640 ≤ 128 * (d + 1); omega⟩ ⟨Nat.sub_le_sub_right hmm.1 _, Nat.sub_le_sub_right hmm.2 _⟩ (dgi_get hg) hd (of_decide_eq_true hI3) (of_decide_eq_true hI4) k2⟩
        · cases hz
      · cases hz
  | invokestatic idx =>
    replace hz : dWl K pc L S D = some D1 := hz
    have e : len = 3 := Nat.eq_of_beq_eq_true hlen
    subst e
    obtain ⟨hI1, hI2⟩ := zand2 (a := decide (own = "BoulderDowry$Tokens")) hI
    have ho := of_decide_eq_true hI1
    obtain rfl := Nat.eq_of_beq_eq_true hI2
    unfold dWl at hz
    split at hz
    · rename_i x b a S
      split at hz
      · rename_i hcat
        obtain ⟨k1, k2⟩ := hKK _ _ _ _ _ hL hz
        have hmm := zn_mono k1
        exact ⟨k1, zs_wl hx hb hK hA hts hown (hml.trans hL.symm) hZ hR hAO hAA ho (Nat.le_of_ble_eq_true hcat) ⟨by show 5 ≤ d + 1; omega, by show 640 ≤ 128 * (d + 1); omega⟩ ⟨Nat.sub_le_sub_right hmm.1 _, Nat.sub_le_sub_right hmm.2 _⟩ hd k2⟩
      · cases hz
    · cases hz
  | _ => first | exact oth hz hlen hI | exact oth hz rfl hI
