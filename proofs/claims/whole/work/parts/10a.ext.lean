def zKe (k : zC) : Prop := ∀ pc L S h res, k pc L S h = some res → zExt h res.2
def zPe (Φ : Nat → List zV → zH → zR) : Prop := ∀ y as h res, Φ y as h = some res → zExt h res.2
theorem zsw_ext {kj : zC} (hkj : zKe kj) {L : zL} {S : List zV} {h : zH} {res : zV × zH} {x d : Int} : ∀ {ts : List Int}, zsw (fun t => kj t L S h) x d ts = some res → zExt h res.2
  | [], hz => hkj _ _ _ _ _ hz
  | [k], hz => hkj _ _ _ _ _ hz
  | k :: t :: r, hz => by
    rw [zsw] at hz
    split at hz
    · exact hkj _ _ _ _ _ hz
    · exact zsw_ext hkj hz
set_option maxHeartbeats 1000000 in
theorem zins_ext {md : Bool} {FT : Nat → List Nat} {EL : Nat → Nat × Nat} {Φ : Nat → List zV → zH → zR} (hΦ : zPe Φ) {kf kj : zC} (hkf : zKe kf) (hkj : zKe kj) {pc : Nat} {ins : Instr} {ax : List Int} {L : zL} {S : List zV} {h : zH} {res : zV × zH} (hz : zins md FT EL Φ kf kj pc ins ax L S h = some res) : zExt h res.2 := by
  cases ins with
  | iconst i =>
    have k1 := hkf _ _ _ _ _ hz
    exact k1
  | bipush i =>
    have k1 := hkf _ _ _ _ _ hz
    exact k1
  | sipush i =>
    have k1 := hkf _ _ _ _ _ hz
    exact k1
  | ldc i =>
    have k1 := hkf _ _ _ _ _ hz
    exact k1
  | ldc_w i =>
    have k1 := hkf _ _ _ _ _ hz
    exact k1
  | ldc2_w i =>
    have k1 := hkf _ _ _ _ _ hz
    exact k1
  | lconst i =>
    have k1 := hkf _ _ _ _ _ hz
    exact k1
  | iload_n i =>
    obtain ⟨a, ha, hzn⟩ := zgi_inv hz
    clear hz
    have hz := hzn
    clear hzn
    have k1 := hkf _ _ _ _ _ hz
    exact k1
  | istore_n i =>
    obtain ⟨a, S1, rfl, hzn⟩ := zpi_inv hz
    clear hz
    have hz := hzn
    clear hzn
    obtain ⟨hb1, hzn⟩ := zck_inv hz
    clear hz
    have hz := hzn
    clear hzn
    have hb1 := Nat.blt_eq.mp hb1
    have k1 := hkf _ _ _ _ _ hz
    exact k1
  | iload i =>
    obtain ⟨a, ha, hzn⟩ := zgi_inv hz
    clear hz
    have hz := hzn
    clear hzn
    have k1 := hkf _ _ _ _ _ hz
    exact k1
  | istore i =>
    obtain ⟨a, S1, rfl, hzn⟩ := zpi_inv hz
    clear hz
    have hz := hzn
    clear hzn
    obtain ⟨hb1, hzn⟩ := zck_inv hz
    clear hz
    have hz := hzn
    clear hzn
    have hb1 := Nat.blt_eq.mp hb1
    have k1 := hkf _ _ _ _ _ hz
    exact k1
  | lload_n i =>
    obtain ⟨a, ha, hzn⟩ := zgl_inv hz
    clear hz
    have hz := hzn
    clear hzn
    have k1 := hkf _ _ _ _ _ hz
    exact k1
  | lstore_n i =>
    obtain ⟨a, S1, rfl, hzn⟩ := zpl_inv hz
    clear hz
    have hz := hzn
    clear hzn
    obtain ⟨hb1, hzn⟩ := zck_inv hz
    clear hz
    have hz := hzn
    clear hzn
    have hb1 := Nat.blt_eq.mp hb1
    have k1 := hkf _ _ _ _ _ hz
    exact k1
  | lload i =>
    obtain ⟨a, ha, hzn⟩ := zgl_inv hz
    clear hz
    have hz := hzn
    clear hzn
    have k1 := hkf _ _ _ _ _ hz
    exact k1
  | lstore i =>
    obtain ⟨a, S1, rfl, hzn⟩ := zpl_inv hz
    clear hz
    have hz := hzn
    clear hzn
    obtain ⟨hb1, hzn⟩ := zck_inv hz
    clear hz
    have hz := hzn
    clear hzn
    have hb1 := Nat.blt_eq.mp hb1
    have k1 := hkf _ _ _ _ _ hz
    exact k1
  | aload_n i =>
    obtain ⟨r, kd, w, ha, hzn⟩ := zgr_inv hz
    clear hz
    have hz := hzn
    clear hzn
    have k1 := hkf _ _ _ _ _ hz
    exact k1
  | astore_n i =>
    obtain ⟨r, kd, w, S1, rfl, hzn⟩ := zpr_inv hz
    clear hz
    have hz := hzn
    clear hzn
    obtain ⟨hb1, hzn⟩ := zck_inv hz
    clear hz
    have hz := hzn
    clear hzn
    have hb1 := Nat.blt_eq.mp hb1
    have k1 := hkf _ _ _ _ _ hz
    exact k1
  | aload i =>
    obtain ⟨r, kd, w, ha, hzn⟩ := zgr_inv hz
    clear hz
    have hz := hzn
    clear hzn
    have k1 := hkf _ _ _ _ _ hz
    exact k1
  | astore i =>
    obtain ⟨r, kd, w, S1, rfl, hzn⟩ := zpr_inv hz
    clear hz
    have hz := hzn
    clear hzn
    obtain ⟨hb1, hzn⟩ := zck_inv hz
    clear hz
    have hz := hzn
    clear hzn
    have hb1 := Nat.blt_eq.mp hb1
    have k1 := hkf _ _ _ _ _ hz
    exact k1
  | iinc i n =>
    obtain ⟨a, ha, hzn⟩ := zgi_inv hz
    clear hz
    have hz := hzn
    clear hzn
    obtain ⟨hb1, hzn⟩ := zck_inv hz
    clear hz
    have hz := hzn
    clear hzn
    have hb1 := Nat.blt_eq.mp hb1
    have k1 := hkf _ _ _ _ _ hz
    exact k1
  | iadd =>
    obtain ⟨b, S1, rfl, hzn⟩ := zpi_inv hz
    clear hz
    have hz := hzn
    clear hzn
    obtain ⟨a, S2, rfl, hzn⟩ := zpi_inv hz
    clear hz
    have hz := hzn
    clear hzn
    have k1 := hkf _ _ _ _ _ hz
    exact k1
  | isub =>
    obtain ⟨b, S1, rfl, hzn⟩ := zpi_inv hz
    clear hz
    have hz := hzn
    clear hzn
    obtain ⟨a, S2, rfl, hzn⟩ := zpi_inv hz
    clear hz
    have hz := hzn
    clear hzn
    have k1 := hkf _ _ _ _ _ hz
    exact k1
  | imul =>
    obtain ⟨b, S1, rfl, hzn⟩ := zpi_inv hz
    clear hz
    have hz := hzn
    clear hzn
    obtain ⟨a, S2, rfl, hzn⟩ := zpi_inv hz
    clear hz
    have hz := hzn
    clear hzn
    have k1 := hkf _ _ _ _ _ hz
    exact k1
  | iand =>
    obtain ⟨b, S1, rfl, hzn⟩ := zpi_inv hz
    clear hz
    have hz := hzn
    clear hzn
    obtain ⟨a, S2, rfl, hzn⟩ := zpi_inv hz
    clear hz
    have hz := hzn
    clear hzn
    have k1 := hkf _ _ _ _ _ hz
    exact k1
  | ior =>
    obtain ⟨b, S1, rfl, hzn⟩ := zpi_inv hz
    clear hz
    have hz := hzn
    clear hzn
    obtain ⟨a, S2, rfl, hzn⟩ := zpi_inv hz
    clear hz
    have hz := hzn
    clear hzn
    have k1 := hkf _ _ _ _ _ hz
    exact k1
  | ixor =>
    obtain ⟨b, S1, rfl, hzn⟩ := zpi_inv hz
    clear hz
    have hz := hzn
    clear hzn
    obtain ⟨a, S2, rfl, hzn⟩ := zpi_inv hz
    clear hz
    have hz := hzn
    clear hzn
    have k1 := hkf _ _ _ _ _ hz
    exact k1
  | ishl =>
    obtain ⟨b, S1, rfl, hzn⟩ := zpi_inv hz
    clear hz
    have hz := hzn
    clear hzn
    obtain ⟨a, S2, rfl, hzn⟩ := zpi_inv hz
    clear hz
    have hz := hzn
    clear hzn
    have k1 := hkf _ _ _ _ _ hz
    exact k1
  | ishr =>
    obtain ⟨b, S1, rfl, hzn⟩ := zpi_inv hz
    clear hz
    have hz := hzn
    clear hzn
    obtain ⟨a, S2, rfl, hzn⟩ := zpi_inv hz
    clear hz
    have hz := hzn
    clear hzn
    have k1 := hkf _ _ _ _ _ hz
    exact k1
  | iushr =>
    obtain ⟨b, S1, rfl, hzn⟩ := zpi_inv hz
    clear hz
    have hz := hzn
    clear hzn
    obtain ⟨a, S2, rfl, hzn⟩ := zpi_inv hz
    clear hz
    have hz := hzn
    clear hzn
    have k1 := hkf _ _ _ _ _ hz
    exact k1
  | idiv =>
    obtain ⟨b, S1, rfl, hzn⟩ := zpi_inv hz
    clear hz
    have hz := hzn
    clear hzn
    obtain ⟨a, S2, rfl, hzn⟩ := zpi_inv hz
    clear hz
    have hz := hzn
    clear hzn
    obtain ⟨hne, hzn⟩ := zif_inv hz
    clear hz
    have hz := hzn
    clear hzn
    have k1 := hkf _ _ _ _ _ hz
    exact k1
  | irem =>
    obtain ⟨b, S1, rfl, hzn⟩ := zpi_inv hz
    clear hz
    have hz := hzn
    clear hzn
    obtain ⟨a, S2, rfl, hzn⟩ := zpi_inv hz
    clear hz
    have hz := hzn
    clear hzn
    obtain ⟨hne, hzn⟩ := zif_inv hz
    clear hz
    have hz := hzn
    clear hzn
    have k1 := hkf _ _ _ _ _ hz
    exact k1
  | ladd =>
    obtain ⟨b, S1, rfl, hzn⟩ := zpl_inv hz
    clear hz
    have hz := hzn
    clear hzn
    obtain ⟨a, S2, rfl, hzn⟩ := zpl_inv hz
    clear hz
    have hz := hzn
    clear hzn
    have k1 := hkf _ _ _ _ _ hz
    exact k1
  | lsub =>
    obtain ⟨b, S1, rfl, hzn⟩ := zpl_inv hz
    clear hz
    have hz := hzn
    clear hzn
    obtain ⟨a, S2, rfl, hzn⟩ := zpl_inv hz
    clear hz
    have hz := hzn
    clear hzn
    have k1 := hkf _ _ _ _ _ hz
    exact k1
  | lmul =>
    obtain ⟨b, S1, rfl, hzn⟩ := zpl_inv hz
    clear hz
    have hz := hzn
    clear hzn
    obtain ⟨a, S2, rfl, hzn⟩ := zpl_inv hz
    clear hz
    have hz := hzn
    clear hzn
    have k1 := hkf _ _ _ _ _ hz
    exact k1
  | land =>
    obtain ⟨b, S1, rfl, hzn⟩ := zpl_inv hz
    clear hz
    have hz := hzn
    clear hzn
    obtain ⟨a, S2, rfl, hzn⟩ := zpl_inv hz
    clear hz
    have hz := hzn
    clear hzn
    have k1 := hkf _ _ _ _ _ hz
    exact k1
  | lor =>
    obtain ⟨b, S1, rfl, hzn⟩ := zpl_inv hz
    clear hz
    have hz := hzn
    clear hzn
    obtain ⟨a, S2, rfl, hzn⟩ := zpl_inv hz
    clear hz
    have hz := hzn
    clear hzn
    have k1 := hkf _ _ _ _ _ hz
    exact k1
  | lxor =>
    obtain ⟨b, S1, rfl, hzn⟩ := zpl_inv hz
    clear hz
    have hz := hzn
    clear hzn
    obtain ⟨a, S2, rfl, hzn⟩ := zpl_inv hz
    clear hz
    have hz := hzn
    clear hzn
    have k1 := hkf _ _ _ _ _ hz
    exact k1
  | lcmp =>
    obtain ⟨b, S1, rfl, hzn⟩ := zpl_inv hz
    clear hz
    have hz := hzn
    clear hzn
    obtain ⟨a, S2, rfl, hzn⟩ := zpl_inv hz
    clear hz
    have hz := hzn
    clear hzn
    have k1 := hkf _ _ _ _ _ hz
    exact k1
  | ldiv =>
    obtain ⟨b, S1, rfl, hzn⟩ := zpl_inv hz
    clear hz
    have hz := hzn
    clear hzn
    obtain ⟨a, S2, rfl, hzn⟩ := zpl_inv hz
    clear hz
    have hz := hzn
    clear hzn
    obtain ⟨hne, hzn⟩ := zif_inv hz
    clear hz
    have hz := hzn
    clear hzn
    have k1 := hkf _ _ _ _ _ hz
    exact k1
  | lrem =>
    obtain ⟨b, S1, rfl, hzn⟩ := zpl_inv hz
    clear hz
    have hz := hzn
    clear hzn
    obtain ⟨a, S2, rfl, hzn⟩ := zpl_inv hz
    clear hz
    have hz := hzn
    clear hzn
    obtain ⟨hne, hzn⟩ := zif_inv hz
    clear hz
    have hz := hzn
    clear hzn
    have k1 := hkf _ _ _ _ _ hz
    exact k1
  | lshl =>
    obtain ⟨b, S1, rfl, hzn⟩ := zpi_inv hz
    clear hz
    have hz := hzn
    clear hzn
    obtain ⟨a, S2, rfl, hzn⟩ := zpl_inv hz
    clear hz
    have hz := hzn
    clear hzn
    have k1 := hkf _ _ _ _ _ hz
    exact k1
  | lshr =>
    obtain ⟨b, S1, rfl, hzn⟩ := zpi_inv hz
    clear hz
    have hz := hzn
    clear hzn
    obtain ⟨a, S2, rfl, hzn⟩ := zpl_inv hz
    clear hz
    have hz := hzn
    clear hzn
    have k1 := hkf _ _ _ _ _ hz
    exact k1
  | lushr =>
    obtain ⟨b, S1, rfl, hzn⟩ := zpi_inv hz
    clear hz
    have hz := hzn
    clear hzn
    obtain ⟨a, S2, rfl, hzn⟩ := zpl_inv hz
    clear hz
    have hz := hzn
    clear hzn
    have k1 := hkf _ _ _ _ _ hz
    exact k1
  | ineg =>
    obtain ⟨a, S1, rfl, hzn⟩ := zpi_inv hz
    clear hz
    have hz := hzn
    clear hzn
    have k1 := hkf _ _ _ _ _ hz
    exact k1
  | lneg =>
    obtain ⟨a, S1, rfl, hzn⟩ := zpl_inv hz
    clear hz
    have hz := hzn
    clear hzn
    have k1 := hkf _ _ _ _ _ hz
    exact k1
  | i2l =>
    obtain ⟨a, S1, rfl, hzn⟩ := zpi_inv hz
    clear hz
    have hz := hzn
    clear hzn
    have k1 := hkf _ _ _ _ _ hz
    exact k1
  | l2i =>
    obtain ⟨a, S1, rfl, hzn⟩ := zpl_inv hz
    clear hz
    have hz := hzn
    clear hzn
    have k1 := hkf _ _ _ _ _ hz
    exact k1
  | dup =>
    replace hz : (match (generalizing := false) S with | .inl a :: S => kf (pc + 1) L (.inl a :: .inl a :: S) h | .inr (.inr (r, k, w)) :: S => kf (pc + 1) L (zrf r k w :: zrf r k w :: S) h | _ => none) = some res := hz
    split at hz
    · have k1 := hkf _ _ _ _ _ hz
      exact k1
    · have k1 := hkf _ _ _ _ _ hz
      exact k1
    · cases hz
  | dup2 =>
    replace hz : (match (generalizing := false) S with | .inl a :: .inr (.inr (r, k, w)) :: S => kf (pc + 1) L (.inl a :: zrf r k w :: .inl a :: zrf r k w :: S) h | _ => none) = some res := hz
    split at hz
    · have k1 := hkf _ _ _ _ _ hz
      exact k1
    · cases hz
  | pop =>
    replace hz : (match (generalizing := false) S with | .inl _ :: S => kf (pc + 1) L S h | .inr (.inr _) :: S => kf (pc + 1) L S h | _ => none) = some res := hz
    split at hz
    · have k1 := hkf _ _ _ _ _ hz
      exact k1
    · have k1 := hkf _ _ _ _ _ hz
      exact k1
    · cases hz
  | goto off =>
    have k1 := hkj _ _ _ _ _ hz
    exact k1
  | ifCond cnd off =>
    obtain ⟨a, SS, rfl, hzn⟩ := zpi_inv hz
    clear hz
    have hz := hzn
    clear hzn
    cases cnd with
    | eq =>
      replace hz : (if a = 0 then kj (ax.getD 0 0).toNat L SS h else kf (pc + 3) L SS h) = some res := hz
      split at hz
      · exact hkj _ _ _ _ _ hz
      · exact hkf _ _ _ _ _ hz
    | ge =>
      replace hz : (if a < 0 then kf (pc + 3) L SS h else kj (ax.getD 0 0).toNat L SS h) = some res := hz
      split at hz
      · exact hkf _ _ _ _ _ hz
      · exact hkj _ _ _ _ _ hz
    | gt =>
      replace hz : (if 0 < a then kj (ax.getD 0 0).toNat L SS h else kf (pc + 3) L SS h) = some res := hz
      split at hz
      · exact hkj _ _ _ _ _ hz
      · exact hkf _ _ _ _ _ hz
    | le =>
      replace hz : (if 0 < a then kf (pc + 3) L SS h else kj (ax.getD 0 0).toNat L SS h) = some res := hz
      split at hz
      · exact hkf _ _ _ _ _ hz
      · exact hkj _ _ _ _ _ hz
    | lt =>
      replace hz : (if a < 0 then kj (ax.getD 0 0).toNat L SS h else kf (pc + 3) L SS h) = some res := hz
      split at hz
      · exact hkj _ _ _ _ _ hz
      · exact hkf _ _ _ _ _ hz
    | ne =>
      replace hz : (if a = 0 then kf (pc + 3) L SS h else kj (ax.getD 0 0).toNat L SS h) = some res := hz
      split at hz
      · exact hkf _ _ _ _ _ hz
      · exact hkj _ _ _ _ _ hz
  | if_icmp cnd off =>
    obtain ⟨b, S1, rfl, hzn⟩ := zpi_inv hz
    clear hz
    have hz := hzn
    clear hzn
    obtain ⟨a, SS, rfl, hzn⟩ := zpi_inv hz
    clear hz
    have hz := hzn
    clear hzn
    cases cnd with
    | eq =>
      replace hz : (if a = b then kj (ax.getD 0 0).toNat L SS h else kf (pc + 3) L SS h) = some res := hz
      split at hz
      · exact hkj _ _ _ _ _ hz
      · exact hkf _ _ _ _ _ hz
    | ge =>
      replace hz : (if a < b then kf (pc + 3) L SS h else kj (ax.getD 0 0).toNat L SS h) = some res := hz
      split at hz
      · exact hkf _ _ _ _ _ hz
      · exact hkj _ _ _ _ _ hz
    | gt =>
      replace hz : (if b < a then kj (ax.getD 0 0).toNat L SS h else kf (pc + 3) L SS h) = some res := hz
      split at hz
      · exact hkj _ _ _ _ _ hz
      · exact hkf _ _ _ _ _ hz
    | le =>
      replace hz : (if b < a then kf (pc + 3) L SS h else kj (ax.getD 0 0).toNat L SS h) = some res := hz
      split at hz
      · exact hkf _ _ _ _ _ hz
      · exact hkj _ _ _ _ _ hz
    | lt =>
      replace hz : (if a < b then kj (ax.getD 0 0).toNat L SS h else kf (pc + 3) L SS h) = some res := hz
      split at hz
      · exact hkj _ _ _ _ _ hz
      · exact hkf _ _ _ _ _ hz
    | ne =>
      replace hz : (if a = b then kf (pc + 3) L SS h else kj (ax.getD 0 0).toNat L SS h) = some res := hz
      split at hz
      · exact hkf _ _ _ _ _ hz
      · exact hkj _ _ _ _ _ hz
  | ifnull off =>
    obtain ⟨r, kd, w, SS, rfl, hzn⟩ := zpr_inv hz
    clear hz
    have hz := hzn
    clear hzn
    replace hz : (if r < 0 then kj (ax.getD 0 0).toNat L SS h else kf (pc + 3) L SS h) = some res := hz
    split at hz
    · exact hkj _ _ _ _ _ hz
    · exact hkf _ _ _ _ _ hz
  | ifnonnull off =>
    obtain ⟨r, kd, w, SS, rfl, hzn⟩ := zpr_inv hz
    clear hz
    have hz := hzn
    clear hzn
    replace hz : (if r < 0 then kf (pc + 3) L SS h else kj (ax.getD 0 0).toNat L SS h) = some res := hz
    split at hz
    · exact hkf _ _ _ _ _ hz
    · exact hkj _ _ _ _ _ hz
  | tableswitch dflt lo hi offs =>
    obtain ⟨x, SS, rfl, hzn⟩ := zpi_inv hz
    clear hz
    have hz := hzn
    clear hzn
    exact zsw_ext hkj hz
  | lookupswitch dflt ps =>
    obtain ⟨x, SS, rfl, hzn⟩ := zpi_inv hz
    clear hz
    have hz := hzn
    clear hzn
    exact zsw_ext hkj hz
  | arraylength =>
    obtain ⟨r, kd, w, SS, rfl, hzn⟩ := zpr_inv hz
    clear hz
    have hz := hzn
    clear hzn
    obtain ⟨hk, hzn⟩ := zck_inv hz
    clear hz
    have hz := hzn
    clear hzn
    obtain ⟨h0, hzn⟩ := zit_inv hz
    clear hz
    have hz := hzn
    clear hzn
    exact hkf _ _ _ _ _ hz
  | iaload =>
    obtain ⟨i, S1, rfl, hzn⟩ := zpi_inv hz
    clear hz
    have hz := hzn
    clear hzn
    obtain ⟨r, kd, w, SS, rfl, hzn⟩ := zpr_inv hz
    clear hz
    have hz := hzn
    clear hzn
    obtain ⟨hk, hzn⟩ := zck_inv hz
    clear hz
    have hz := hzn
    clear hzn
    obtain rfl : kd = 100 := Nat.eq_of_beq_eq_true hk
    obtain ⟨h0, hzn⟩ := zit_inv hz
    clear hz
    have hz := hzn
    clear hzn
    obtain ⟨⟨h1, h2⟩, hzn⟩ := zit_inv hz
    clear hz
    have hz := hzn
    clear hzn
    have k1 := hkf _ _ _ _ _ hz
    exact k1
  | laload =>
    obtain ⟨i, S1, rfl, hzn⟩ := zpi_inv hz
    clear hz
    have hz := hzn
    clear hzn
    obtain ⟨r, kd, w, SS, rfl, hzn⟩ := zpr_inv hz
    clear hz
    have hz := hzn
    clear hzn
    obtain ⟨hk, hzn⟩ := zck_inv hz
    clear hz
    have hz := hzn
    clear hzn
    obtain rfl : kd = 101 := Nat.eq_of_beq_eq_true hk
    obtain ⟨h0, hzn⟩ := zit_inv hz
    clear hz
    have hz := hzn
    clear hzn
    obtain ⟨⟨h1, h2⟩, hzn⟩ := zit_inv hz
    clear hz
    have hz := hzn
    clear hzn
    have k1 := hkf _ _ _ _ _ hz
    exact k1
  | baload =>
    obtain ⟨i, S1, rfl, hzn⟩ := zpi_inv hz
    clear hz
    have hz := hzn
    clear hzn
    obtain ⟨r, kd, w, SS, rfl, hzn⟩ := zpr_inv hz
    clear hz
    have hz := hzn
    clear hzn
    obtain ⟨hk, hzn⟩ := zck_inv hz
    clear hz
    have hz := hzn
    clear hzn
    obtain rfl : kd = 102 := Nat.eq_of_beq_eq_true hk
    obtain ⟨h0, hzn⟩ := zit_inv hz
    clear hz
    have hz := hzn
    clear hzn
    obtain ⟨⟨h1, h2⟩, hzn⟩ := zit_inv hz
    clear hz
    have hz := hzn
    clear hzn
    have k1 := hkf _ _ _ _ _ hz
    exact k1
  | aaload =>
    obtain ⟨i, S1, rfl, hzn⟩ := zpi_inv hz
    clear hz
    have hz := hzn
    clear hzn
    obtain ⟨r, kd, w, SS, rfl, hzn⟩ := zpr_inv hz
    clear hz
    have hz := hzn
    clear hzn
    obtain ⟨hk, hzn⟩ := zck_inv hz
    clear hz
    have hz := hzn
    clear hzn
    obtain ⟨h0, hzn⟩ := zit_inv hz
    clear hz
    have hz := hzn
    clear hzn
    obtain ⟨⟨h1, h2⟩, hzn⟩ := zit_inv hz
    clear hz
    have hz := hzn
    clear hzn
    exact hkf _ _ _ _ _ hz
  | iastore =>
    obtain ⟨v, S0, rfl, hzn⟩ := zpi_inv hz
    clear hz
    have hz := hzn
    clear hzn
    obtain ⟨i, S1, rfl, hzn⟩ := zpi_inv hz
    clear hz
    have hz := hzn
    clear hzn
    obtain ⟨r, kd, w, SS, rfl, hzn⟩ := zpr_inv hz
    clear hz
    have hz := hzn
    clear hzn
    obtain ⟨hk, hzn⟩ := zck_inv hz
    clear hz
    have hz := hzn
    clear hzn
    obtain rfl : kd = 100 := Nat.eq_of_beq_eq_true hk
    obtain ⟨h0, hzn⟩ := zit_inv hz
    clear hz
    have hz := hzn
    clear hzn
    obtain ⟨⟨h1, h2⟩, hzn⟩ := zit_inv hz
    clear hz
    have hz := hzn
    clear hzn
    have k1 := hkf _ _ _ _ _ hz
    exact (zExt_set h0).tr k1
  | lastore =>
    obtain ⟨v, S0, rfl, hzn⟩ := zpl_inv hz
    clear hz
    have hz := hzn
    clear hzn
    obtain ⟨i, S1, rfl, hzn⟩ := zpi_inv hz
    clear hz
    have hz := hzn
    clear hzn
    obtain ⟨r, kd, w, SS, rfl, hzn⟩ := zpr_inv hz
    clear hz
    have hz := hzn
    clear hzn
    obtain ⟨hk, hzn⟩ := zck_inv hz
    clear hz
    have hz := hzn
    clear hzn
    obtain rfl : kd = 101 := Nat.eq_of_beq_eq_true hk
    obtain ⟨h0, hzn⟩ := zit_inv hz
    clear hz
    have hz := hzn
    clear hzn
    obtain ⟨⟨h1, h2⟩, hzn⟩ := zit_inv hz
    clear hz
    have hz := hzn
    clear hzn
    have k1 := hkf _ _ _ _ _ hz
    exact (zExt_set h0).tr k1
  | bastore =>
    obtain ⟨v, S0, rfl, hzn⟩ := zpi_inv hz
    clear hz
    have hz := hzn
    clear hzn
    obtain ⟨i, S1, rfl, hzn⟩ := zpi_inv hz
    clear hz
    have hz := hzn
    clear hzn
    obtain ⟨r, kd, w, SS, rfl, hzn⟩ := zpr_inv hz
    clear hz
    have hz := hzn
    clear hzn
    obtain ⟨hk, hzn⟩ := zck_inv hz
    clear hz
    have hz := hzn
    clear hzn
    obtain rfl : kd = 102 := Nat.eq_of_beq_eq_true hk
    obtain ⟨h0, hzn⟩ := zit_inv hz
    clear hz
    have hz := hzn
    clear hzn
    obtain ⟨⟨h1, h2⟩, hzn⟩ := zit_inv hz
    clear hz
    have hz := hzn
    clear hzn
    obtain ⟨hv, hzn⟩ := zit_inv hz
    clear hz
    have hz := hzn
    clear hzn
    have k1 := hkf _ _ _ _ _ hz
    exact (zExt_set h0).tr k1
  | aastore =>
    obtain ⟨v, kv, wv, S0, rfl, hzn⟩ := zpr_inv hz
    clear hz
    have hz := hzn
    clear hzn
    obtain ⟨i, S1, rfl, hzn⟩ := zpi_inv hz
    clear hz
    have hz := hzn
    clear hzn
    obtain ⟨r, kd, w, SS, rfl, hzn⟩ := zpr_inv hz
    clear hz
    have hz := hzn
    clear hzn
    obtain ⟨hk, hzn⟩ := zck_inv hz
    clear hz
    have hz := hzn
    clear hzn
    obtain ⟨h0, hzn⟩ := zit_inv hz
    clear hz
    have hz := hzn
    clear hzn
    obtain ⟨hv0, hzn⟩ := zit_inv hz
    clear hz
    have hz := hzn
    clear hzn
    obtain ⟨hbd, hzn⟩ := zit_inv hz
    clear hz
    have hz := hzn
    clear hzn
    exact (zExt_set h0).tr (hkf _ _ _ _ _ hz)
  | ireturn =>
    replace hz : (match (generalizing := false) S with | [.inl a] => (if ax.getD 0 0 = 0 then some (.inl a, h) else (if a = 0 ∨ a = 1 then some (.inl a, h) else none)) | _ => none) = some res := hz
    split at hz
    · split at hz
      · cases hz; exact zExt.rf h
      · obtain ⟨ha, hzn⟩ := zit_inv hz
        clear hz
        have hz := hzn
        clear hzn
        cases hz; exact zExt.rf h
    · cases hz
  | lreturn =>
    replace hz : (match (generalizing := false) S with | [.inr (.inl a)] => some (.inr (.inl a), h) | _ => none) = some res := hz
    split at hz
    · cases hz; exact zExt.rf h
    · cases hz
  | return_ =>
    replace hz : (match (generalizing := false) S with | [] => some (.inl 0, h) | _ => none) = some res := hz
    split at hz
    · cases hz; exact zExt.rf h
    · cases hz
  | getfield idx =>
    obtain ⟨r, k, w, SS, rfl, hzn⟩ := zpr_inv hz
    clear hz
    have hz := hzn
    clear hzn
    replace hz : (match (generalizing := false) ax with | ci :: j :: ty :: kd :: len :: off :: _ => zck (k == ci.toNat) (if 0 ≤ r then (if ty = 1 then kf (pc + 3) L (.inr (.inl (h r j)) :: SS) h else if ty = 3 then kf (pc + 3) L (zrf (h r j) kd.toNat len.toNat :: SS) h else if ty = 4 then kf (pc + 3) L (zrf (match (generalizing := false) md with | true => r + off | false => h r j) kd.toNat len.toNat :: SS) h else kf (pc + 3) L (.inl (h r j) :: SS) h) else none) | _ => none) = some res := hz
    split at hz
    · obtain ⟨hk, hzn⟩ := zck_inv hz
      clear hz
      have hz := hzn
      clear hzn
      obtain ⟨h0, hzn⟩ := zit_inv hz
      clear hz
      have hz := hzn
      clear hzn
      split at hz
      · exact hkf _ _ _ _ _ hz
      · split at hz
        · exact hkf _ _ _ _ _ hz
        · split at hz
          · exact hkf _ _ _ _ _ hz
          · exact hkf _ _ _ _ _ hz
    · cases hz
  | putfield idx =>
    replace hz : (match (generalizing := false) ax with | ci :: j :: ty :: kd :: len :: _ => (if ty = 1 then (zpl S fun v S => zpr S fun r k _ S => zck (k == ci.toNat) (if 0 ≤ r then kf (pc + 3) L S (zset h r j v) else none)) else if ty = 3 ∨ (ty = 4 ∧ md = false) then (zpr S fun v kv wv S => zpr S fun r k _ S => zck (k == ci.toNat && (kv == kd.toNat && wv == len.toNat)) (if 0 ≤ r then kf (pc + 3) L S (zset h r j v) else none)) else if ty = 0 then (zpi S fun v S => zpr S fun r k _ S => zck (k == ci.toNat) (if 0 ≤ r then kf (pc + 3) L S (zset h r j v) else none)) else if ty = 2 then (zpi S fun v S => zpr S fun r k _ S => zck (k == ci.toNat) (if 0 ≤ r then (if v = 0 ∨ v = 1 then kf (pc + 3) L S (zset h r j v) else none) else none)) else none) | _ => none) = some res := hz
    split at hz
    · split at hz
      · obtain ⟨v, S0, rfl, hzn⟩ := zpl_inv hz
        clear hz
        have hz := hzn
        clear hzn
        obtain ⟨r, k, w, SS, rfl, hzn⟩ := zpr_inv hz
        clear hz
        have hz := hzn
        clear hzn
        obtain ⟨hk, hzn⟩ := zck_inv hz
        clear hz
        have hz := hzn
        clear hzn
        obtain ⟨h0, hzn⟩ := zit_inv hz
        clear hz
        have hz := hzn
        clear hzn
        exact (zExt_set h0).tr (hkf _ _ _ _ _ hz)
      · split at hz
        · obtain ⟨v, kv, wv, S0, rfl, hzn⟩ := zpr_inv hz
          clear hz
          have hz := hzn
          clear hzn
          obtain ⟨r, k, w, SS, rfl, hzn⟩ := zpr_inv hz
          clear hz
          have hz := hzn
          clear hzn
          obtain ⟨hk, hzn⟩ := zck_inv hz
          clear hz
          have hz := hzn
          clear hzn
          obtain ⟨h0, hzn⟩ := zit_inv hz
          clear hz
          have hz := hzn
          clear hzn
          exact (zExt_set h0).tr (hkf _ _ _ _ _ hz)
        · split at hz
          · obtain ⟨v, S0, rfl, hzn⟩ := zpi_inv hz
            clear hz
            have hz := hzn
            clear hzn
            obtain ⟨r, k, w, SS, rfl, hzn⟩ := zpr_inv hz
            clear hz
            have hz := hzn
            clear hzn
            obtain ⟨hk, hzn⟩ := zck_inv hz
            clear hz
            have hz := hzn
            clear hzn
            obtain ⟨h0, hzn⟩ := zit_inv hz
            clear hz
            have hz := hzn
            clear hzn
            exact (zExt_set h0).tr (hkf _ _ _ _ _ hz)
          · split at hz
            · obtain ⟨v, S0, rfl, hzn⟩ := zpi_inv hz
              clear hz
              have hz := hzn
              clear hzn
              obtain ⟨r, k, w, SS, rfl, hzn⟩ := zpr_inv hz
              clear hz
              have hz := hzn
              clear hzn
              obtain ⟨hk, hzn⟩ := zck_inv hz
              clear hz
              have hz := hzn
              clear hzn
              obtain ⟨h0, hzn⟩ := zit_inv hz
              clear hz
              have hz := hzn
              clear hzn
              obtain ⟨hv, hzn⟩ := zit_inv hz
              clear hz
              have hz := hzn
              clear hzn
              exact (zExt_set h0).tr (hkf _ _ _ _ _ hz)
            · cases hz
    · cases hz
  | invokevirtual idx =>
    replace hz : (match (generalizing := false) ax with | y :: n :: rk :: ci :: _ => (match (generalizing := false) ztake n.toNat [] S with | some (.inr (.inr (r, k, w)) :: as, S) => zck (k == ci.toNat && Nat.ble (zcat S) 8) (if 0 ≤ r then (if rk = 1 then zql (Φ y.toNat (zrf r k w :: as) h) fun a h => kf (pc + 3) L (.inr (.inl a) :: S) h else if rk = 2 then zqv (Φ y.toNat (zrf r k w :: as) h) fun h => kf (pc + 3) L S h else zqi (Φ y.toNat (zrf r k w :: as) h) fun a h => kf (pc + 3) L (.inl a :: S) h) else none) | _ => none) | _ => none) = some res := hz
    split at hz
    · split at hz
      · obtain ⟨hk, hzn⟩ := zck_inv hz
        clear hz
        have hz := hzn
        clear hzn
        obtain ⟨h0, hzn⟩ := zit_inv hz
        clear hz
        have hz := hzn
        clear hzn
        split at hz
        · obtain ⟨a, h1, g1, g2⟩ := zql_inv hz
          exact (hΦ _ _ _ _ g1).tr (hkf _ _ _ _ _ g2)
        · split at hz
          · obtain ⟨a, h1, g1, g2⟩ := zqv_inv hz
            exact (hΦ _ _ _ _ g1).tr (hkf _ _ _ _ _ g2)
          · obtain ⟨a, h1, g1, g2⟩ := zqi_inv hz
            exact (hΦ _ _ _ _ g1).tr (hkf _ _ _ _ _ g2)
      · cases hz
    · cases hz
  | invokestatic idx =>
    replace hz : (match (generalizing := false) ax with | y :: n :: rk :: _ => (if y = -2 then (zpi S fun n S => zpi S fun dp S => zpr S fun d kd wd S => zpi S fun sp S => zpr S fun r k w S => zck (Nat.beq kd 100 && (Nat.beq k 100 && Nat.ble (zcat S) 8)) (if 0 ≤ r ∧ 0 ≤ d then (if 0 ≤ sp ∧ 0 ≤ dp ∧ 0 ≤ n ∧ sp + n ≤ w ∧ dp + n ≤ wd then kf (pc + 3) L S (zcpy h d dp r sp n) else none) else none)) else match (generalizing := false) ztake n.toNat [] S with | some (as, S) => zck (Nat.ble (zcat S) 8) (if rk = 1 then zql (Φ y.toNat as h) fun a h => kf (pc + 3) L (.inr (.inl a) :: S) h else if rk = 2 then zqv (Φ y.toNat as h) fun h => kf (pc + 3) L S h else zqi (Φ y.toNat as h) fun a h => kf (pc + 3) L (.inl a :: S) h) | _ => none) | _ => none) = some res := hz
    split at hz
    · split at hz
      · obtain ⟨n, S0, rfl, hzn⟩ := zpi_inv hz
        clear hz
        have hz := hzn
        clear hzn
        obtain ⟨dp, S1, rfl, hzn⟩ := zpi_inv hz
        clear hz
        have hz := hzn
        clear hzn
        obtain ⟨dd, kd, wd, S2, rfl, hzn⟩ := zpr_inv hz
        clear hz
        have hz := hzn
        clear hzn
        obtain ⟨sp, S3, rfl, hzn⟩ := zpi_inv hz
        clear hz
        have hz := hzn
        clear hzn
        obtain ⟨r, k, w, SS, rfl, hzn⟩ := zpr_inv hz
        clear hz
        have hz := hzn
        clear hzn
        obtain ⟨hk, hzn⟩ := zck_inv hz
        clear hz
        have hz := hzn
        clear hzn
        obtain ⟨h0, hzn⟩ := zit_inv hz
        clear hz
        have hz := hzn
        clear hzn
        obtain ⟨hbd, hzn⟩ := zit_inv hz
        clear hz
        have hz := hzn
        clear hzn
        exact (zExt_cpy h0.2).tr (hkf _ _ _ _ _ hz)
      · split at hz
        · obtain ⟨hk, hzn⟩ := zck_inv hz
          clear hz
          have hz := hzn
          clear hzn
          split at hz
          · obtain ⟨a, h1, g1, g2⟩ := zql_inv hz
            exact (hΦ _ _ _ _ g1).tr (hkf _ _ _ _ _ g2)
          · split at hz
            · obtain ⟨a, h1, g1, g2⟩ := zqv_inv hz
              exact (hΦ _ _ _ _ g1).tr (hkf _ _ _ _ _ g2)
            · obtain ⟨a, h1, g1, g2⟩ := zqi_inv hz
              exact (hΦ _ _ _ _ g1).tr (hkf _ _ _ _ _ g2)
        · cases hz
    · cases hz
  | invokespecial idx =>
    replace hz : (match (generalizing := false) ax with | y :: n :: _ => (match (generalizing := false) ztake n.toNat [] S with | some (.inr (.inr (r, k, w)) :: as, S) => zck (Nat.ble (zcat S) 8) (if 0 ≤ r then (if y < 0 then kf (pc + 3) L S h else zqv (Φ y.toNat (zrf r k w :: as) h) fun h => kf (pc + 3) L S h) else none) | _ => none) | _ => none) = some res := hz
    split at hz
    · split at hz
      · obtain ⟨hk, hzn⟩ := zck_inv hz
        clear hz
        have hz := hzn
        clear hzn
        obtain ⟨h0, hzn⟩ := zit_inv hz
        clear hz
        have hz := hzn
        clear hzn
        split at hz
        · exact hkf _ _ _ _ _ hz
        · obtain ⟨a, h1, g1, g2⟩ := zqv_inv hz
          exact (hΦ _ _ _ _ g1).tr (hkf _ _ _ _ _ g2)
      · cases hz
    · cases hz
  | new idx =>
    replace hz : (match (generalizing := false) md, ax with | false, ci :: n :: _ => (if 0 ≤ n then kf (pc + 3) L (zrf (h (-1) 0) ci.toNat 0 :: S) (znew h ci 0 n (zdf (FT ci.toNat))) else none) | _, _ => none) = some res := hz
    split at hz
    · obtain ⟨h0, hzn⟩ := zit_inv hz
      clear hz
      have hz := hzn
      clear hzn
      exact (zExt_new h0).tr (hkf _ _ _ _ _ hz)
    · cases hz
  | newarray t =>
    replace hz : (match (generalizing := false) md, ax with | false, kd :: _ => (zpi S fun n S => if 0 ≤ n ∧ n < 60000 then kf (pc + 2) L (zrf (h (-1) 0) kd.toNat n.toNat :: S) (znew h kd n n (zne kd.toNat 0)) else none) | _, _ => none) = some res := hz
    split at hz
    · obtain ⟨n, SS, rfl, hzn⟩ := zpi_inv hz
      clear hz
      have hz := hzn
      clear hzn
      obtain ⟨h0, hzn⟩ := zit_inv hz
      clear hz
      have hz := hzn
      clear hzn
      exact (zExt_new h0.1).tr (hkf _ _ _ _ _ hz)
    · cases hz
  | anewarray idx =>
    replace hz : (match (generalizing := false) md, ax with | false, _ => (zpi S fun n S => if 0 ≤ n ∧ n < 60000 then kf (pc + 3) L (zrf (h (-1) 0) 103 n.toNat :: S) (znew h 103 n n (zne 103 0)) else none) | _, _ => none) = some res := hz
    split at hz
    · obtain ⟨n, SS, rfl, hzn⟩ := zpi_inv hz
      clear hz
      have hz := hzn
      clear hzn
      obtain ⟨h0, hzn⟩ := zit_inv hz
      clear hz
      have hz := hzn
      clear hzn
      exact (zExt_new h0.1).tr (hkf _ _ _ _ _ hz)
    · cases hz
  | _ => exact absurd hz (by intro q; cases q)
theorem zseg_ext {md : Bool} {FT : Nat → List Nat} {EL : Nat → Nat × Nat} {Φ : Nat → List zV → zH → zR} (hΦ : zPe Φ) {K : zC} (hK : zKe K) : ∀ rows : List zRow, zKe (zseg md FT EL Φ K rows)
  | [] => fun pc L S h res hz => by cases hz
  | q :: rows => by
    have ih := zseg_ext (md := md) (FT := FT) (EL := EL) hΦ hK rows
    intro t L S h res hz
    replace hz : (if t = q.1 then zins md FT EL Φ (match q.2.2.2.1 with | true => K | false => zseg md FT EL Φ K rows) (match q.2.2.2.2.1 with | true => K | false => zseg md FT EL Φ K rows) q.1 q.2.2.1 q.2.2.2.2.2 L S h else zseg md FT EL Φ K rows t L S h) = some res := hz
    split at hz
    · have s1 : ∀ b : Bool, zKe (match b with | true => K | false => zseg md FT EL Φ K rows) := fun b => by
        cases b
        · exact ih
        · exact hK
      exact zins_ext hΦ (s1 _) (s1 _) hz
    · exact ih t L S h res hz
theorem zev_ext {md : Bool} {FT : Nat → List Nat} {EL : Nat → Nat × Nat} {Φ : Nat → List zV → zH → zR} (hΦ : zPe Φ) {rows : List zRow} : ∀ f, zKe (zev md FT EL Φ rows f)
  | 0 => fun pc L S h res hz => by cases hz
  | f + 1 => zseg_ext hΦ (zev_ext hΦ f) rows
theorem zrun_ext {md : Bool} {FT : Nat → List Nat} {EL : Nat → Nat × Nat} {F : Nat} {MT : Nat → zMD} : ∀ d, zPe (zrun md FT EL F MT d)
  | 0 => fun y as h res hz => by cases hz
  | d + 1 => fun y as h res hz => zev_ext (zrun_ext d) F _ _ _ _ _ (zck_inv hz).2

