set_option maxHeartbeats 1000000 in
theorem zins_soundN {p : Program} {l : Launch} {e : Env} {s : State} {m : MethodId} {args : Array Value} {below : List Frame} {meth : Method} {c : Code} {D : va_G} {cl : List vw_C} {A : Nat → Prop} {n0 s0 : Nat} {ad0 : Nat → Nat} {md : Bool} {FT : Nat → List Nat} {FK : Nat → Nat → Nat × Nat × Int} {EL : Nat → Nat × Nat} {cs : Nat → ClassId} {SC : String} {rk : Int} {d : Nat} {cc : ByteArray} (hx : p.tables.exec = Jvm.exec) (hb : c.code = cc) (hK : va_K D cl (ztys cs SC) s) (hA : ∀ q, s.heap.size ≤ q → A q) {Ts : List Cond} (hts : ∀ w ∈ Ts, w.before args s = true) (hgd : ∀ w ∈ Ts, goodWord w = true) (hnw : ∀ w ∈ zNw, va_Nw w s) {own : String} (hown : s.vm.findClass own = some m.cls) {nL : Nat} (hml : c.maxLocals = nL) (hlo : meth.locks = false) (hret : meth.sig.returnType = zrt rk) {MT : Nat → zMD} {Φ : Nat → List zV → zH → zR} (hΦ : zPsN l Ts cl md FT FK EL SC MT d Φ) {kf kj : zC} (hkf : zKs p l e s m args below meth c D cl A n0 s0 ad0 md FT FK EL cs SC rk d nL kf) (hkj : zKs p l e s m args below meth c D cl A n0 s0 ad0 md FT FK EL cs SC rk d nL kj) {pc len : Nat} {ins : Instr} {ax : List Int} (hd : decode cc pc = .ok (ins, len)) (hlen : zlnok ins len) (hI : zIokN md Ts cl FT FK MT own rk pc ins ax) {L : zL} {S : List zV} {h : zH} {res : zV × zH} (hL : L.length = nL) (hz : zins md FT EL Φ kf kj pc ins ax L S h = some res) : zExt h res.2 ∧ zA p l e s m args below meth c D cl A n0 s0 ad0 md FT FK EL cs SC rk d res pc L S h := by
  cases ins with
  | iconst i =>
    replace hlen : len = zlen _ := hlen
    subst hlen
    obtain ⟨k1, k2⟩ := hkf _ _ _ _ _ hL hz
    obtain ⟨i1, i2⟩ := hI
    rw [i1] at k2
    exact ⟨k1, zs_iconst hx hb hd i2 k2⟩
  | bipush i =>
    replace hlen : len = zlen _ := hlen
    subst hlen
    obtain ⟨k1, k2⟩ := hkf _ _ _ _ _ hL hz
    exact ⟨k1, zs_bipush hx hb hd hI.1 hI.2 k2⟩
  | sipush i =>
    replace hlen : len = zlen _ := hlen
    subst hlen
    obtain ⟨k1, k2⟩ := hkf _ _ _ _ _ hL hz
    exact ⟨k1, zs_sipush hx hb hd hI.1 hI.2 k2⟩
  | ldc i =>
    replace hlen : len = zlen _ := hlen
    subst hlen
    obtain ⟨k1, k2⟩ := hkf _ _ _ _ _ hL hz
    exact ⟨k1, zs_ldc hx hb hown (hts _ hI.2) hd hI.1 k2⟩
  | ldc_w i =>
    replace hlen : len = zlen _ := hlen
    subst hlen
    obtain ⟨k1, k2⟩ := hkf _ _ _ _ _ hL hz
    exact ⟨k1, zs_ldc_w hx hb hown (hts _ hI.2) hd hI.1 k2⟩
  | ldc2_w i =>
    replace hlen : len = zlen _ := hlen
    subst hlen
    obtain ⟨k1, k2⟩ := hkf _ _ _ _ _ hL hz
    exact ⟨k1, zs_ldc2_w hx hb hown (hts _ hI.2) hd hI.1 k2⟩
  | lconst i =>
    replace hlen : len = zlen _ := hlen
    subst hlen
    obtain ⟨k1, k2⟩ := hkf _ _ _ _ _ hL hz
    exact ⟨k1, zs_lconst hx hb hd hI.1 hI.2 k2⟩
  | iload_n i =>
    replace hlen : len = zlen _ := hlen
    subst hlen
    obtain ⟨a, ha, hzn⟩ := zgi_inv hz
    clear hz
    have hz := hzn
    clear hzn
    obtain ⟨k1, k2⟩ := hkf _ _ _ _ _ hL hz
    exact ⟨k1, zs_iload_n hx hb hd ha k2⟩
  | istore_n i =>
    replace hlen : len = zlen _ := hlen
    subst hlen
    obtain ⟨a, S1, rfl, hzn⟩ := zpi_inv hz
    clear hz
    have hz := hzn
    clear hzn
    obtain ⟨hb1, hzn⟩ := zck_inv hz
    clear hz
    have hz := hzn
    clear hzn
    have hb1 := Nat.blt_eq.mp hb1
    obtain ⟨k1, k2⟩ := hkf _ _ _ _ _ ((zst1_len _ _ _).trans hL) hz
    exact ⟨k1, zs_istore_n hx hb hd hb1 k2⟩
  | iload i =>
    replace hlen : len = zlen _ := hlen
    subst hlen
    obtain ⟨a, ha, hzn⟩ := zgi_inv hz
    clear hz
    have hz := hzn
    clear hzn
    obtain ⟨k1, k2⟩ := hkf _ _ _ _ _ hL hz
    exact ⟨k1, zs_iload hx hb hd ha k2⟩
  | istore i =>
    replace hlen : len = zlen _ := hlen
    subst hlen
    obtain ⟨a, S1, rfl, hzn⟩ := zpi_inv hz
    clear hz
    have hz := hzn
    clear hzn
    obtain ⟨hb1, hzn⟩ := zck_inv hz
    clear hz
    have hz := hzn
    clear hzn
    have hb1 := Nat.blt_eq.mp hb1
    obtain ⟨k1, k2⟩ := hkf _ _ _ _ _ ((zst1_len _ _ _).trans hL) hz
    exact ⟨k1, zs_istore hx hb hd hb1 k2⟩
  | lload_n i =>
    replace hlen : len = zlen _ := hlen
    subst hlen
    obtain ⟨a, ha, hzn⟩ := zgl_inv hz
    clear hz
    have hz := hzn
    clear hzn
    obtain ⟨k1, k2⟩ := hkf _ _ _ _ _ hL hz
    exact ⟨k1, zs_lload_n hx hb hd ha k2⟩
  | lstore_n i =>
    replace hlen : len = zlen _ := hlen
    subst hlen
    obtain ⟨a, S1, rfl, hzn⟩ := zpl_inv hz
    clear hz
    have hz := hzn
    clear hzn
    obtain ⟨hb1, hzn⟩ := zck_inv hz
    clear hz
    have hz := hzn
    clear hzn
    have hb1 := Nat.blt_eq.mp hb1
    obtain ⟨k1, k2⟩ := hkf _ _ _ _ _ ((zst2_len _ _ _).trans hL) hz
    exact ⟨k1, zs_lstore_n hx hb hd hb1 k2⟩
  | lload i =>
    replace hlen : len = zlen _ := hlen
    subst hlen
    obtain ⟨a, ha, hzn⟩ := zgl_inv hz
    clear hz
    have hz := hzn
    clear hzn
    obtain ⟨k1, k2⟩ := hkf _ _ _ _ _ hL hz
    exact ⟨k1, zs_lload hx hb hd ha k2⟩
  | lstore i =>
    replace hlen : len = zlen _ := hlen
    subst hlen
    obtain ⟨a, S1, rfl, hzn⟩ := zpl_inv hz
    clear hz
    have hz := hzn
    clear hzn
    obtain ⟨hb1, hzn⟩ := zck_inv hz
    clear hz
    have hz := hzn
    clear hzn
    have hb1 := Nat.blt_eq.mp hb1
    obtain ⟨k1, k2⟩ := hkf _ _ _ _ _ ((zst2_len _ _ _).trans hL) hz
    exact ⟨k1, zs_lstore hx hb hd hb1 k2⟩
  | aload_n i =>
    replace hlen : len = zlen _ := hlen
    subst hlen
    obtain ⟨r, kd, w, ha, hzn⟩ := zgr_inv hz
    clear hz
    have hz := hzn
    clear hzn
    obtain ⟨k1, k2⟩ := hkf _ _ _ _ _ hL hz
    exact ⟨k1, zs_aload_n hx hb hd ha k2⟩
  | astore_n i =>
    replace hlen : len = zlen _ := hlen
    subst hlen
    obtain ⟨r, kd, w, S1, rfl, hzn⟩ := zpr_inv hz
    clear hz
    have hz := hzn
    clear hzn
    obtain ⟨hb1, hzn⟩ := zck_inv hz
    clear hz
    have hz := hzn
    clear hzn
    have hb1 := Nat.blt_eq.mp hb1
    obtain ⟨k1, k2⟩ := hkf _ _ _ _ _ ((zst1_len _ _ _).trans hL) hz
    exact ⟨k1, zs_astore_n hx hb hd hb1 k2⟩
  | aload i =>
    replace hlen : len = zlen _ := hlen
    subst hlen
    obtain ⟨r, kd, w, ha, hzn⟩ := zgr_inv hz
    clear hz
    have hz := hzn
    clear hzn
    obtain ⟨k1, k2⟩ := hkf _ _ _ _ _ hL hz
    exact ⟨k1, zs_aload hx hb hd ha k2⟩
  | astore i =>
    replace hlen : len = zlen _ := hlen
    subst hlen
    obtain ⟨r, kd, w, S1, rfl, hzn⟩ := zpr_inv hz
    clear hz
    have hz := hzn
    clear hzn
    obtain ⟨hb1, hzn⟩ := zck_inv hz
    clear hz
    have hz := hzn
    clear hzn
    have hb1 := Nat.blt_eq.mp hb1
    obtain ⟨k1, k2⟩ := hkf _ _ _ _ _ ((zst1_len _ _ _).trans hL) hz
    exact ⟨k1, zs_astore hx hb hd hb1 k2⟩
  | iinc i n =>
    replace hlen : len = zlen _ := hlen
    subst hlen
    obtain ⟨a, ha, hzn⟩ := zgi_inv hz
    clear hz
    have hz := hzn
    clear hzn
    obtain ⟨hb1, hzn⟩ := zck_inv hz
    clear hz
    have hz := hzn
    clear hzn
    have hb1 := Nat.blt_eq.mp hb1
    obtain ⟨k1, k2⟩ := hkf _ _ _ _ _ ((zst1_len _ _ _).trans hL) hz
    replace hI : ax.getD 0 0 = n := hI
    rw [hI] at k2
    exact ⟨k1, zs_iinc hx hb hd ha hb1 k2⟩
  | iadd =>
    replace hlen : len = zlen _ := hlen
    subst hlen
    obtain ⟨b, S1, rfl, hzn⟩ := zpi_inv hz
    clear hz
    have hz := hzn
    clear hzn
    obtain ⟨a, S2, rfl, hzn⟩ := zpi_inv hz
    clear hz
    have hz := hzn
    clear hzn
    obtain ⟨k1, k2⟩ := hkf _ _ _ _ _ hL hz
    exact ⟨k1, zs_iadd hx hb hd k2⟩
  | isub =>
    replace hlen : len = zlen _ := hlen
    subst hlen
    obtain ⟨b, S1, rfl, hzn⟩ := zpi_inv hz
    clear hz
    have hz := hzn
    clear hzn
    obtain ⟨a, S2, rfl, hzn⟩ := zpi_inv hz
    clear hz
    have hz := hzn
    clear hzn
    obtain ⟨k1, k2⟩ := hkf _ _ _ _ _ hL hz
    exact ⟨k1, zs_isub hx hb hd k2⟩
  | imul =>
    replace hlen : len = zlen _ := hlen
    subst hlen
    obtain ⟨b, S1, rfl, hzn⟩ := zpi_inv hz
    clear hz
    have hz := hzn
    clear hzn
    obtain ⟨a, S2, rfl, hzn⟩ := zpi_inv hz
    clear hz
    have hz := hzn
    clear hzn
    obtain ⟨k1, k2⟩ := hkf _ _ _ _ _ hL hz
    exact ⟨k1, zs_imul hx hb hd k2⟩
  | iand =>
    replace hlen : len = zlen _ := hlen
    subst hlen
    obtain ⟨b, S1, rfl, hzn⟩ := zpi_inv hz
    clear hz
    have hz := hzn
    clear hzn
    obtain ⟨a, S2, rfl, hzn⟩ := zpi_inv hz
    clear hz
    have hz := hzn
    clear hzn
    obtain ⟨k1, k2⟩ := hkf _ _ _ _ _ hL hz
    exact ⟨k1, zs_iand hx hb hd k2⟩
  | ior =>
    replace hlen : len = zlen _ := hlen
    subst hlen
    obtain ⟨b, S1, rfl, hzn⟩ := zpi_inv hz
    clear hz
    have hz := hzn
    clear hzn
    obtain ⟨a, S2, rfl, hzn⟩ := zpi_inv hz
    clear hz
    have hz := hzn
    clear hzn
    obtain ⟨k1, k2⟩ := hkf _ _ _ _ _ hL hz
    exact ⟨k1, zs_ior hx hb hd k2⟩
  | ixor =>
    replace hlen : len = zlen _ := hlen
    subst hlen
    obtain ⟨b, S1, rfl, hzn⟩ := zpi_inv hz
    clear hz
    have hz := hzn
    clear hzn
    obtain ⟨a, S2, rfl, hzn⟩ := zpi_inv hz
    clear hz
    have hz := hzn
    clear hzn
    obtain ⟨k1, k2⟩ := hkf _ _ _ _ _ hL hz
    exact ⟨k1, zs_ixor hx hb hd k2⟩
  | ishl =>
    replace hlen : len = zlen _ := hlen
    subst hlen
    obtain ⟨b, S1, rfl, hzn⟩ := zpi_inv hz
    clear hz
    have hz := hzn
    clear hzn
    obtain ⟨a, S2, rfl, hzn⟩ := zpi_inv hz
    clear hz
    have hz := hzn
    clear hzn
    obtain ⟨k1, k2⟩ := hkf _ _ _ _ _ hL hz
    exact ⟨k1, zs_ishl hx hb hd k2⟩
  | ishr =>
    replace hlen : len = zlen _ := hlen
    subst hlen
    obtain ⟨b, S1, rfl, hzn⟩ := zpi_inv hz
    clear hz
    have hz := hzn
    clear hzn
    obtain ⟨a, S2, rfl, hzn⟩ := zpi_inv hz
    clear hz
    have hz := hzn
    clear hzn
    obtain ⟨k1, k2⟩ := hkf _ _ _ _ _ hL hz
    exact ⟨k1, zs_ishr hx hb hd k2⟩
  | iushr =>
    replace hlen : len = zlen _ := hlen
    subst hlen
    obtain ⟨b, S1, rfl, hzn⟩ := zpi_inv hz
    clear hz
    have hz := hzn
    clear hzn
    obtain ⟨a, S2, rfl, hzn⟩ := zpi_inv hz
    clear hz
    have hz := hzn
    clear hzn
    obtain ⟨k1, k2⟩ := hkf _ _ _ _ _ hL hz
    exact ⟨k1, zs_iushr hx hb hd k2⟩
  | idiv =>
    replace hlen : len = zlen _ := hlen
    subst hlen
    obtain ⟨b, S1, rfl, hzn⟩ := zpi_inv hz
    clear hz
    have hz := hzn
    clear hzn
    obtain ⟨a, S2, rfl, hzn⟩ := zpi_inv hz
    clear hz
    have hz := hzn
    clear hzn
    obtain ⟨hne, hzn⟩ := zdz_inv hz
    clear hz
    have hz := hzn
    clear hzn
    obtain ⟨k1, k2⟩ := hkf _ _ _ _ _ hL hz
    exact ⟨k1, zs_idiv hx hb hd hne k2⟩
  | irem =>
    replace hlen : len = zlen _ := hlen
    subst hlen
    obtain ⟨b, S1, rfl, hzn⟩ := zpi_inv hz
    clear hz
    have hz := hzn
    clear hzn
    obtain ⟨a, S2, rfl, hzn⟩ := zpi_inv hz
    clear hz
    have hz := hzn
    clear hzn
    obtain ⟨hne, hzn⟩ := zdz_inv hz
    clear hz
    have hz := hzn
    clear hzn
    obtain ⟨k1, k2⟩ := hkf _ _ _ _ _ hL hz
    exact ⟨k1, zs_irem hx hb hd hne k2⟩
  | ladd =>
    replace hlen : len = zlen _ := hlen
    subst hlen
    obtain ⟨b, S1, rfl, hzn⟩ := zpl_inv hz
    clear hz
    have hz := hzn
    clear hzn
    obtain ⟨a, S2, rfl, hzn⟩ := zpl_inv hz
    clear hz
    have hz := hzn
    clear hzn
    obtain ⟨k1, k2⟩ := hkf _ _ _ _ _ hL hz
    exact ⟨k1, zs_ladd hx hb hd k2⟩
  | lsub =>
    replace hlen : len = zlen _ := hlen
    subst hlen
    obtain ⟨b, S1, rfl, hzn⟩ := zpl_inv hz
    clear hz
    have hz := hzn
    clear hzn
    obtain ⟨a, S2, rfl, hzn⟩ := zpl_inv hz
    clear hz
    have hz := hzn
    clear hzn
    obtain ⟨k1, k2⟩ := hkf _ _ _ _ _ hL hz
    exact ⟨k1, zs_lsub hx hb hd k2⟩
  | lmul =>
    replace hlen : len = zlen _ := hlen
    subst hlen
    obtain ⟨b, S1, rfl, hzn⟩ := zpl_inv hz
    clear hz
    have hz := hzn
    clear hzn
    obtain ⟨a, S2, rfl, hzn⟩ := zpl_inv hz
    clear hz
    have hz := hzn
    clear hzn
    obtain ⟨k1, k2⟩ := hkf _ _ _ _ _ hL hz
    exact ⟨k1, zs_lmul hx hb hd k2⟩
  | land =>
    replace hlen : len = zlen _ := hlen
    subst hlen
    obtain ⟨b, S1, rfl, hzn⟩ := zpl_inv hz
    clear hz
    have hz := hzn
    clear hzn
    obtain ⟨a, S2, rfl, hzn⟩ := zpl_inv hz
    clear hz
    have hz := hzn
    clear hzn
    obtain ⟨k1, k2⟩ := hkf _ _ _ _ _ hL hz
    exact ⟨k1, zs_land hx hb hd k2⟩
  | lor =>
    replace hlen : len = zlen _ := hlen
    subst hlen
    obtain ⟨b, S1, rfl, hzn⟩ := zpl_inv hz
    clear hz
    have hz := hzn
    clear hzn
    obtain ⟨a, S2, rfl, hzn⟩ := zpl_inv hz
    clear hz
    have hz := hzn
    clear hzn
    obtain ⟨k1, k2⟩ := hkf _ _ _ _ _ hL hz
    exact ⟨k1, zs_lor hx hb hd k2⟩
  | lxor =>
    replace hlen : len = zlen _ := hlen
    subst hlen
    obtain ⟨b, S1, rfl, hzn⟩ := zpl_inv hz
    clear hz
    have hz := hzn
    clear hzn
    obtain ⟨a, S2, rfl, hzn⟩ := zpl_inv hz
    clear hz
    have hz := hzn
    clear hzn
    obtain ⟨k1, k2⟩ := hkf _ _ _ _ _ hL hz
    exact ⟨k1, zs_lxor hx hb hd k2⟩
  | lcmp =>
    replace hlen : len = zlen _ := hlen
    subst hlen
    obtain ⟨b, S1, rfl, hzn⟩ := zpl_inv hz
    clear hz
    have hz := hzn
    clear hzn
    obtain ⟨a, S2, rfl, hzn⟩ := zpl_inv hz
    clear hz
    have hz := hzn
    clear hzn
    obtain ⟨k1, k2⟩ := hkf _ _ _ _ _ hL hz
    exact ⟨k1, zs_lcmp (SC := SC) hx hb hd k2⟩
  | ldiv =>
    replace hlen : len = zlen _ := hlen
    subst hlen
    obtain ⟨b, S1, rfl, hzn⟩ := zpl_inv hz
    clear hz
    have hz := hzn
    clear hzn
    obtain ⟨a, S2, rfl, hzn⟩ := zpl_inv hz
    clear hz
    have hz := hzn
    clear hzn
    obtain ⟨hne, hzn⟩ := zdz_inv hz
    clear hz
    have hz := hzn
    clear hzn
    obtain ⟨k1, k2⟩ := hkf _ _ _ _ _ hL hz
    exact ⟨k1, zs_ldiv hx hb hd hne k2⟩
  | lrem =>
    replace hlen : len = zlen _ := hlen
    subst hlen
    obtain ⟨b, S1, rfl, hzn⟩ := zpl_inv hz
    clear hz
    have hz := hzn
    clear hzn
    obtain ⟨a, S2, rfl, hzn⟩ := zpl_inv hz
    clear hz
    have hz := hzn
    clear hzn
    obtain ⟨hne, hzn⟩ := zdz_inv hz
    clear hz
    have hz := hzn
    clear hzn
    obtain ⟨k1, k2⟩ := hkf _ _ _ _ _ hL hz
    exact ⟨k1, zs_lrem hx hb hd hne k2⟩
  | lshl =>
    replace hlen : len = zlen _ := hlen
    subst hlen
    obtain ⟨b, S1, rfl, hzn⟩ := zpi_inv hz
    clear hz
    have hz := hzn
    clear hzn
    obtain ⟨a, S2, rfl, hzn⟩ := zpl_inv hz
    clear hz
    have hz := hzn
    clear hzn
    obtain ⟨k1, k2⟩ := hkf _ _ _ _ _ hL hz
    exact ⟨k1, zs_lshl hx hb hd k2⟩
  | lshr =>
    replace hlen : len = zlen _ := hlen
    subst hlen
    obtain ⟨b, S1, rfl, hzn⟩ := zpi_inv hz
    clear hz
    have hz := hzn
    clear hzn
    obtain ⟨a, S2, rfl, hzn⟩ := zpl_inv hz
    clear hz
    have hz := hzn
    clear hzn
    obtain ⟨k1, k2⟩ := hkf _ _ _ _ _ hL hz
    exact ⟨k1, zs_lshr hx hb hd k2⟩
  | lushr =>
    replace hlen : len = zlen _ := hlen
    subst hlen
    obtain ⟨b, S1, rfl, hzn⟩ := zpi_inv hz
    clear hz
    have hz := hzn
    clear hzn
    obtain ⟨a, S2, rfl, hzn⟩ := zpl_inv hz
    clear hz
    have hz := hzn
    clear hzn
    obtain ⟨k1, k2⟩ := hkf _ _ _ _ _ hL hz
    exact ⟨k1, zs_lushr hx hb hd k2⟩
  | ineg =>
    replace hlen : len = zlen _ := hlen
    subst hlen
    obtain ⟨a, S1, rfl, hzn⟩ := zpi_inv hz
    clear hz
    have hz := hzn
    clear hzn
    obtain ⟨k1, k2⟩ := hkf _ _ _ _ _ hL hz
    exact ⟨k1, zs_ineg hx hb hd k2⟩
  | lneg =>
    replace hlen : len = zlen _ := hlen
    subst hlen
    obtain ⟨a, S1, rfl, hzn⟩ := zpl_inv hz
    clear hz
    have hz := hzn
    clear hzn
    obtain ⟨k1, k2⟩ := hkf _ _ _ _ _ hL hz
    exact ⟨k1, zs_lneg hx hb hd k2⟩
  | i2l =>
    replace hlen : len = zlen _ := hlen
    subst hlen
    obtain ⟨a, S1, rfl, hzn⟩ := zpi_inv hz
    clear hz
    have hz := hzn
    clear hzn
    obtain ⟨k1, k2⟩ := hkf _ _ _ _ _ hL hz
    exact ⟨k1, zs_i2l hx hb hd k2⟩
  | l2i =>
    replace hlen : len = zlen _ := hlen
    subst hlen
    obtain ⟨a, S1, rfl, hzn⟩ := zpl_inv hz
    clear hz
    have hz := hzn
    clear hzn
    obtain ⟨k1, k2⟩ := hkf _ _ _ _ _ hL hz
    exact ⟨k1, zs_l2i hx hb hd k2⟩
  | dup =>
    replace hlen : len = zlen _ := hlen
    subst hlen
    replace hz : (match (generalizing := false) S with | .inl a :: S => kf (pc + 1) L (.inl a :: .inl a :: S) h | .inr (.inr (r, k, w)) :: S => kf (pc + 1) L (zrf r k w :: zrf r k w :: S) h | _ => none) = some res := hz
    split at hz
    · obtain ⟨k1, k2⟩ := hkf _ _ _ _ _ hL hz
      exact ⟨k1, zs_dup hx hb hd (fun a q => by cases q) k2⟩
    · obtain ⟨k1, k2⟩ := hkf _ _ _ _ _ hL hz
      exact ⟨k1, zs_dup hx hb hd (fun a q => by cases q) k2⟩
    · cases hz
  | dup2 =>
    replace hlen : len = zlen _ := hlen
    subst hlen
    replace hz : (match (generalizing := false) S with | .inl a :: .inr (.inr (r, k, w)) :: S => kf (pc + 1) L (.inl a :: zrf r k w :: .inl a :: zrf r k w :: S) h | _ => none) = some res := hz
    split at hz
    · obtain ⟨k1, k2⟩ := hkf _ _ _ _ _ hL hz
      exact ⟨k1, zs_dup2 hx hb hd (fun a q => by cases q) (fun a q => by cases q) k2⟩
    · cases hz
  | pop =>
    replace hlen : len = zlen _ := hlen
    subst hlen
    replace hz : (match (generalizing := false) S with | .inl _ :: S => kf (pc + 1) L S h | .inr (.inr _) :: S => kf (pc + 1) L S h | _ => none) = some res := hz
    split at hz
    · obtain ⟨k1, k2⟩ := hkf _ _ _ _ _ hL hz
      exact ⟨k1, zs_pop hx hb hd (fun a q => by cases q) k2⟩
    · obtain ⟨k1, k2⟩ := hkf _ _ _ _ _ hL hz
      exact ⟨k1, zs_pop hx hb hd (fun a q => by cases q) k2⟩
    · cases hz
  | goto off =>
    replace hlen : len = zlen _ := hlen
    subst hlen
    obtain ⟨k1, k2⟩ := hkj _ _ _ _ _ hL hz
    exact ⟨k1, zs_goto hx hb hd (t := (ax.getD 0 0).toNat) (by rw [hI.1]; have := hI.2; omega) k2⟩
  | ifCond cnd off =>
    replace hlen : len = zlen _ := hlen
    subst hlen
    obtain ⟨a, SS, rfl, hzn⟩ := zpi_inv hz
    clear hz
    have hz := hzn
    clear hzn
    cases cnd with
    | eq =>
      replace hz : (if a = 0 then kj (ax.getD 0 0).toNat L SS h else kf (pc + 3) L SS h) = some res := hz
      refine ⟨?_, zs_if_eq hx hb hd (t := (ax.getD 0 0).toNat) (by rw [hI.1]; have := hI.2; omega) (fun q => ?_) (fun q => ?_)⟩
      · by_cases q : a = 0
        · rw [if_pos q] at hz; exact (hkj _ _ _ _ _ hL hz).1
        · rw [if_neg q] at hz; exact (hkf _ _ _ _ _ hL hz).1
      · rw [if_pos q] at hz; exact (hkj _ _ _ _ _ hL hz).2
      · rw [if_neg q] at hz; exact (hkf _ _ _ _ _ hL hz).2
    | ge =>
      replace hz : (if a < 0 then kf (pc + 3) L SS h else kj (ax.getD 0 0).toNat L SS h) = some res := hz
      refine ⟨?_, zs_if_ge hx hb hd (t := (ax.getD 0 0).toNat) (by rw [hI.1]; have := hI.2; omega) (fun q => ?_) (fun q => ?_)⟩
      · by_cases q : a < 0
        · rw [if_pos q] at hz; exact (hkf _ _ _ _ _ hL hz).1
        · rw [if_neg q] at hz; exact (hkj _ _ _ _ _ hL hz).1
      · rw [if_pos q] at hz; exact (hkf _ _ _ _ _ hL hz).2
      · rw [if_neg q] at hz; exact (hkj _ _ _ _ _ hL hz).2
    | gt =>
      replace hz : (if 0 < a then kj (ax.getD 0 0).toNat L SS h else kf (pc + 3) L SS h) = some res := hz
      refine ⟨?_, zs_if_gt hx hb hd (t := (ax.getD 0 0).toNat) (by rw [hI.1]; have := hI.2; omega) (fun q => ?_) (fun q => ?_)⟩
      · by_cases q : 0 < a
        · rw [if_pos q] at hz; exact (hkj _ _ _ _ _ hL hz).1
        · rw [if_neg q] at hz; exact (hkf _ _ _ _ _ hL hz).1
      · rw [if_pos q] at hz; exact (hkj _ _ _ _ _ hL hz).2
      · rw [if_neg q] at hz; exact (hkf _ _ _ _ _ hL hz).2
    | le =>
      replace hz : (if 0 < a then kf (pc + 3) L SS h else kj (ax.getD 0 0).toNat L SS h) = some res := hz
      refine ⟨?_, zs_if_le hx hb hd (t := (ax.getD 0 0).toNat) (by rw [hI.1]; have := hI.2; omega) (fun q => ?_) (fun q => ?_)⟩
      · by_cases q : 0 < a
        · rw [if_pos q] at hz; exact (hkf _ _ _ _ _ hL hz).1
        · rw [if_neg q] at hz; exact (hkj _ _ _ _ _ hL hz).1
      · rw [if_pos q] at hz; exact (hkf _ _ _ _ _ hL hz).2
      · rw [if_neg q] at hz; exact (hkj _ _ _ _ _ hL hz).2
    | lt =>
      replace hz : (if a < 0 then kj (ax.getD 0 0).toNat L SS h else kf (pc + 3) L SS h) = some res := hz
      refine ⟨?_, zs_if_lt hx hb hd (t := (ax.getD 0 0).toNat) (by rw [hI.1]; have := hI.2; omega) (fun q => ?_) (fun q => ?_)⟩
      · by_cases q : a < 0
        · rw [if_pos q] at hz; exact (hkj _ _ _ _ _ hL hz).1
        · rw [if_neg q] at hz; exact (hkf _ _ _ _ _ hL hz).1
      · rw [if_pos q] at hz; exact (hkj _ _ _ _ _ hL hz).2
      · rw [if_neg q] at hz; exact (hkf _ _ _ _ _ hL hz).2
    | ne =>
      replace hz : (if a = 0 then kf (pc + 3) L SS h else kj (ax.getD 0 0).toNat L SS h) = some res := hz
      refine ⟨?_, zs_if_ne hx hb hd (t := (ax.getD 0 0).toNat) (by rw [hI.1]; have := hI.2; omega) (fun q => ?_) (fun q => ?_)⟩
      · by_cases q : a = 0
        · rw [if_pos q] at hz; exact (hkf _ _ _ _ _ hL hz).1
        · rw [if_neg q] at hz; exact (hkj _ _ _ _ _ hL hz).1
      · rw [if_pos q] at hz; exact (hkf _ _ _ _ _ hL hz).2
      · rw [if_neg q] at hz; exact (hkj _ _ _ _ _ hL hz).2
  | if_icmp cnd off =>
    replace hlen : len = zlen _ := hlen
    subst hlen
    obtain ⟨b, S1, rfl, hzn⟩ := zpi_inv hz
    clear hz
    have hz := hzn
    clear hzn
    obtain ⟨a, SS, rfl, hzn⟩ := zpi_inv hz
    clear hz
    have hz := hzn
    clear hzn
    cases cnd with
    | eq =>
      replace hz : (if a = b then kj (ax.getD 0 0).toNat L SS h else kf (pc + 3) L SS h) = some res := hz
      refine ⟨?_, zs_icmp_eq hx hb hd (t := (ax.getD 0 0).toNat) (by rw [hI.1]; have := hI.2; omega) (fun q => ?_) (fun q => ?_)⟩
      · by_cases q : a = b
        · rw [if_pos q] at hz; exact (hkj _ _ _ _ _ hL hz).1
        · rw [if_neg q] at hz; exact (hkf _ _ _ _ _ hL hz).1
      · rw [if_pos q] at hz; exact (hkj _ _ _ _ _ hL hz).2
      · rw [if_neg q] at hz; exact (hkf _ _ _ _ _ hL hz).2
    | ge =>
      replace hz : (if a < b then kf (pc + 3) L SS h else kj (ax.getD 0 0).toNat L SS h) = some res := hz
      refine ⟨?_, zs_icmp_ge hx hb hd (t := (ax.getD 0 0).toNat) (by rw [hI.1]; have := hI.2; omega) (fun q => ?_) (fun q => ?_)⟩
      · by_cases q : a < b
        · rw [if_pos q] at hz; exact (hkf _ _ _ _ _ hL hz).1
        · rw [if_neg q] at hz; exact (hkj _ _ _ _ _ hL hz).1
      · rw [if_pos q] at hz; exact (hkf _ _ _ _ _ hL hz).2
      · rw [if_neg q] at hz; exact (hkj _ _ _ _ _ hL hz).2
    | gt =>
      replace hz : (if b < a then kj (ax.getD 0 0).toNat L SS h else kf (pc + 3) L SS h) = some res := hz
      refine ⟨?_, zs_icmp_gt hx hb hd (t := (ax.getD 0 0).toNat) (by rw [hI.1]; have := hI.2; omega) (fun q => ?_) (fun q => ?_)⟩
      · by_cases q : b < a
        · rw [if_pos q] at hz; exact (hkj _ _ _ _ _ hL hz).1
        · rw [if_neg q] at hz; exact (hkf _ _ _ _ _ hL hz).1
      · rw [if_pos q] at hz; exact (hkj _ _ _ _ _ hL hz).2
      · rw [if_neg q] at hz; exact (hkf _ _ _ _ _ hL hz).2
    | le =>
      replace hz : (if b < a then kf (pc + 3) L SS h else kj (ax.getD 0 0).toNat L SS h) = some res := hz
      refine ⟨?_, zs_icmp_le hx hb hd (t := (ax.getD 0 0).toNat) (by rw [hI.1]; have := hI.2; omega) (fun q => ?_) (fun q => ?_)⟩
      · by_cases q : b < a
        · rw [if_pos q] at hz; exact (hkf _ _ _ _ _ hL hz).1
        · rw [if_neg q] at hz; exact (hkj _ _ _ _ _ hL hz).1
      · rw [if_pos q] at hz; exact (hkf _ _ _ _ _ hL hz).2
      · rw [if_neg q] at hz; exact (hkj _ _ _ _ _ hL hz).2
    | lt =>
      replace hz : (if a < b then kj (ax.getD 0 0).toNat L SS h else kf (pc + 3) L SS h) = some res := hz
      refine ⟨?_, zs_icmp_lt hx hb hd (t := (ax.getD 0 0).toNat) (by rw [hI.1]; have := hI.2; omega) (fun q => ?_) (fun q => ?_)⟩
      · by_cases q : a < b
        · rw [if_pos q] at hz; exact (hkj _ _ _ _ _ hL hz).1
        · rw [if_neg q] at hz; exact (hkf _ _ _ _ _ hL hz).1
      · rw [if_pos q] at hz; exact (hkj _ _ _ _ _ hL hz).2
      · rw [if_neg q] at hz; exact (hkf _ _ _ _ _ hL hz).2
    | ne =>
      replace hz : (if a = b then kf (pc + 3) L SS h else kj (ax.getD 0 0).toNat L SS h) = some res := hz
      refine ⟨?_, zs_icmp_ne hx hb hd (t := (ax.getD 0 0).toNat) (by rw [hI.1]; have := hI.2; omega) (fun q => ?_) (fun q => ?_)⟩
      · by_cases q : a = b
        · rw [if_pos q] at hz; exact (hkf _ _ _ _ _ hL hz).1
        · rw [if_neg q] at hz; exact (hkj _ _ _ _ _ hL hz).1
      · rw [if_pos q] at hz; exact (hkf _ _ _ _ _ hL hz).2
      · rw [if_neg q] at hz; exact (hkj _ _ _ _ _ hL hz).2
  | ifnull off =>
    replace hlen : len = zlen _ := hlen
    subst hlen
    obtain ⟨r, kd, w, SS, rfl, hzn⟩ := zpr_inv hz
    clear hz
    have hz := hzn
    clear hzn
    replace hz : (if r < 0 then kj (ax.getD 0 0).toNat L SS h else kf (pc + 3) L SS h) = some res := hz
    refine ⟨?_, zs_ifnull (SC := SC) hx hb hd (t := (ax.getD 0 0).toNat) (by rw [hI.1]; have := hI.2; omega) (fun q => ?_) (fun q => ?_)⟩
    · by_cases q : r < 0
      · rw [if_pos q] at hz; exact (hkj _ _ _ _ _ hL hz).1
      · rw [if_neg q] at hz; exact (hkf _ _ _ _ _ hL hz).1
    · rw [if_pos q] at hz; exact (hkj _ _ _ _ _ hL hz).2
    · rw [if_neg q] at hz; exact (hkf _ _ _ _ _ hL hz).2
  | ifnonnull off =>
    replace hlen : len = zlen _ := hlen
    subst hlen
    obtain ⟨r, kd, w, SS, rfl, hzn⟩ := zpr_inv hz
    clear hz
    have hz := hzn
    clear hzn
    replace hz : (if r < 0 then kf (pc + 3) L SS h else kj (ax.getD 0 0).toNat L SS h) = some res := hz
    refine ⟨?_, zs_ifnonnull (SC := SC) hx hb hd (t := (ax.getD 0 0).toNat) (by rw [hI.1]; have := hI.2; omega) (fun q => ?_) (fun q => ?_)⟩
    · by_cases q : r < 0
      · rw [if_pos q] at hz; exact (hkf _ _ _ _ _ hL hz).1
      · rw [if_neg q] at hz; exact (hkj _ _ _ _ _ hL hz).1
    · rw [if_pos q] at hz; exact (hkf _ _ _ _ _ hL hz).2
    · rw [if_neg q] at hz; exact (hkj _ _ _ _ _ hL hz).2
  | tableswitch dflt lo hi offs =>
    obtain ⟨x, SS, rfl, hzn⟩ := zpi_inv hz
    clear hz
    have hz := hzn
    clear hzn
    obtain ⟨i1, i2, i3, i4⟩ := hI
    rw [i1] at hz
    have hz : zsw (fun t => kj t L SS h) x ((pc : Int) + dflt) ((offs.toList.drop 0).mapIdx (fun k o => [lo + (0 : Nat) + k, (pc : Int) + o])).flatten = some res := hz
    have ht := zsw_table hz 0 rfl
    by_cases q : lo + (0 : Nat) ≤ x ∧ x < lo + offs.size
    · obtain ⟨o, ho, hk⟩ := ht.1 q
      obtain ⟨k1, k2⟩ := hkj _ _ _ _ _ hL hk
      have := i4 o (by have := Array.mem_of_getElem? ho; simpa using this)
      exact ⟨k1, zs_table (SC := SC) hx hb hd (Or.inr ⟨⟨by omega, by omega⟩, o, ho, by omega⟩) k2⟩
    · obtain ⟨k1, k2⟩ := hkj _ _ _ _ _ hL (ht.2 q)
      exact ⟨k1, zs_table (SC := SC) hx hb hd (Or.inl ⟨by omega, by omega⟩) k2⟩
  | lookupswitch dflt ps =>
    obtain ⟨x, SS, rfl, hzn⟩ := zpi_inv hz
    clear hz
    have hz := hzn
    clear hzn
    obtain ⟨i1, i2, i3, i4⟩ := hI
    rw [i1] at hz
    have hz : zsw (fun t => kj t L SS h) x ((pc : Int) + dflt) (ps.toList.map (fun q => [q.1, (pc : Int) + q.2])).flatten = some res := hz
    have hk := zsw_lookup trivial ps.toList hz
    obtain ⟨k1, k2⟩ := hkj _ _ _ _ _ hL hk
    have hof : 0 ≤ (pc : Int) + Op.lookupswitch.offset ps.toList dflt x := zoff_pos i2 ps.toList i3
    exact ⟨k1, zs_lookup (SC := SC) hx hb hd i4 (by omega) k2⟩
  | arraylength =>
    replace hlen : len = zlen _ := hlen
    subst hlen
    obtain ⟨r, kd, w, SS, rfl, hzn⟩ := zpr_inv hz
    clear hz
    have hz := hzn
    clear hzn
    obtain ⟨hk, hzn⟩ := zck_inv hz
    clear hz
    have hz := hzn
    clear hzn
    obtain ⟨h0, hzn⟩ := zpo_inv hz
    clear hz
    have hz := hzn
    clear hzn
    obtain ⟨k1, k2⟩ := hkf _ _ _ _ _ hL hz
    rw [Bool.or_eq_true] at hk
    rcases hk with hk | hk
    · obtain rfl : kd = 100 := Nat.eq_of_beq_eq_true hk
      exact ⟨k1, zs_arraylength100 hx hb hK h0 hd k2⟩
    · obtain rfl : kd = 103 := Nat.eq_of_beq_eq_true hk
      exact ⟨k1, zs_arraylength103 hx hb hK h0 hd k2⟩
  | iaload =>
    replace hlen : len = zlen _ := hlen
    subst hlen
    obtain ⟨i, S1, rfl, hzn⟩ := zpi_inv hz
    clear hz
    have hz := hzn
    clear hzn
    obtain ⟨r, kd, w, SS, rfl, hzn⟩ := zpr_inv hz
    clear hz
    have hz := hzn
    clear hzn
    obtain ⟨hk, hzn⟩ := zck_inv hz
    clear hz
    have hz := hzn
    clear hzn
    obtain rfl : kd = 100 := Nat.eq_of_beq_eq_true hk
    obtain ⟨h0, hzn⟩ := zpo_inv hz
    clear hz
    have hz := hzn
    clear hzn
    obtain ⟨⟨h1, h2⟩, hzn⟩ := zit_inv hz
    clear hz
    have hz := hzn
    clear hzn
    obtain ⟨k1, k2⟩ := hkf _ _ _ _ _ hL hz
    exact ⟨k1, zs_iaload hx hb hK h0 h1 h2 hd k2⟩
  | laload =>
    replace hlen : len = zlen _ := hlen
    subst hlen
    obtain ⟨i, S1, rfl, hzn⟩ := zpi_inv hz
    clear hz
    have hz := hzn
    clear hzn
    obtain ⟨r, kd, w, SS, rfl, hzn⟩ := zpr_inv hz
    clear hz
    have hz := hzn
    clear hzn
    obtain ⟨hk, hzn⟩ := zck_inv hz
    clear hz
    have hz := hzn
    clear hzn
    obtain rfl : kd = 101 := Nat.eq_of_beq_eq_true hk
    obtain ⟨h0, hzn⟩ := zpo_inv hz
    clear hz
    have hz := hzn
    clear hzn
    obtain ⟨⟨h1, h2⟩, hzn⟩ := zit_inv hz
    clear hz
    have hz := hzn
    clear hzn
    obtain ⟨k1, k2⟩ := hkf _ _ _ _ _ hL hz
    exact ⟨k1, zs_laload hx hb hK h0 h1 h2 hd k2⟩
  | baload =>
    replace hlen : len = zlen _ := hlen
    subst hlen
    obtain ⟨i, S1, rfl, hzn⟩ := zpi_inv hz
    clear hz
    have hz := hzn
    clear hzn
    obtain ⟨r, kd, w, SS, rfl, hzn⟩ := zpr_inv hz
    clear hz
    have hz := hzn
    clear hzn
    obtain ⟨hk, hzn⟩ := zck_inv hz
    clear hz
    have hz := hzn
    clear hzn
    obtain rfl : kd = 102 := Nat.eq_of_beq_eq_true hk
    obtain ⟨h0, hzn⟩ := zpo_inv hz
    clear hz
    have hz := hzn
    clear hzn
    obtain ⟨⟨h1, h2⟩, hzn⟩ := zit_inv hz
    clear hz
    have hz := hzn
    clear hzn
    obtain ⟨k1, k2⟩ := hkf _ _ _ _ _ hL hz
    exact ⟨k1, zs_baload hx hb hK h0 h1 h2 hd k2⟩
  | aaload =>
    replace hlen : len = zlen _ := hlen
    subst hlen
    obtain ⟨i, S1, rfl, hzn⟩ := zpi_inv hz
    clear hz
    have hz := hzn
    clear hzn
    obtain ⟨r, kd, w, SS, rfl, hzn⟩ := zpr_inv hz
    clear hz
    have hz := hzn
    clear hzn
    obtain ⟨hk, hzn⟩ := zck_inv hz
    clear hz
    have hz := hzn
    clear hzn
    obtain ⟨h0, hzn⟩ := zpo_inv hz
    clear hz
    have hz := hzn
    clear hzn
    obtain ⟨⟨h1, h2⟩, hzn⟩ := zit_inv hz
    clear hz
    have hz := hzn
    clear hzn
    obtain ⟨k1, k2⟩ := hkf _ _ _ _ _ hL hz
    rw [Bool.or_eq_true] at hk
    rcases hk with hk | hk
    · obtain rfl : kd = 103 := Nat.eq_of_beq_eq_true hk
      exact ⟨k1, zs_aaload103 hx hb hK h0 h1 h2 hd k2⟩
    · obtain rfl : kd = 104 := Nat.eq_of_beq_eq_true hk
      exact ⟨k1, zs_aaload104 hx hb hK h0 h1 h2 hd k2⟩
  | iastore =>
    replace hlen : len = zlen _ := hlen
    subst hlen
    obtain ⟨v, S0, rfl, hzn⟩ := zpi_inv hz
    clear hz
    have hz := hzn
    clear hzn
    obtain ⟨i, S1, rfl, hzn⟩ := zpi_inv hz
    clear hz
    have hz := hzn
    clear hzn
    obtain ⟨r, kd, w, SS, rfl, hzn⟩ := zpr_inv hz
    clear hz
    have hz := hzn
    clear hzn
    obtain ⟨hk, hzn⟩ := zck_inv hz
    clear hz
    have hz := hzn
    clear hzn
    obtain rfl : kd = 100 := Nat.eq_of_beq_eq_true hk
    obtain ⟨h0, hzn⟩ := zpo_inv hz
    clear hz
    have hz := hzn
    clear hzn
    obtain ⟨⟨h1, h2⟩, hzn⟩ := zit_inv hz
    clear hz
    have hz := hzn
    clear hzn
    obtain ⟨k1, k2⟩ := hkf _ _ _ _ _ hL hz
    exact ⟨(zExt_set h0).tr k1, zs_iastore hx hb hK h0 h1 h2 hd k2⟩
  | lastore =>
    replace hlen : len = zlen _ := hlen
    subst hlen
    obtain ⟨v, S0, rfl, hzn⟩ := zpl_inv hz
    clear hz
    have hz := hzn
    clear hzn
    obtain ⟨i, S1, rfl, hzn⟩ := zpi_inv hz
    clear hz
    have hz := hzn
    clear hzn
    obtain ⟨r, kd, w, SS, rfl, hzn⟩ := zpr_inv hz
    clear hz
    have hz := hzn
    clear hzn
    obtain ⟨hk, hzn⟩ := zck_inv hz
    clear hz
    have hz := hzn
    clear hzn
    obtain rfl : kd = 101 := Nat.eq_of_beq_eq_true hk
    obtain ⟨h0, hzn⟩ := zpo_inv hz
    clear hz
    have hz := hzn
    clear hzn
    obtain ⟨⟨h1, h2⟩, hzn⟩ := zit_inv hz
    clear hz
    have hz := hzn
    clear hzn
    obtain ⟨k1, k2⟩ := hkf _ _ _ _ _ hL hz
    exact ⟨(zExt_set h0).tr k1, zs_lastore hx hb hK h0 h1 h2 hd k2⟩
  | bastore =>
    replace hlen : len = zlen _ := hlen
    subst hlen
    obtain ⟨v, S0, rfl, hzn⟩ := zpi_inv hz
    clear hz
    have hz := hzn
    clear hzn
    obtain ⟨i, S1, rfl, hzn⟩ := zpi_inv hz
    clear hz
    have hz := hzn
    clear hzn
    obtain ⟨r, kd, w, SS, rfl, hzn⟩ := zpr_inv hz
    clear hz
    have hz := hzn
    clear hzn
    obtain ⟨hk, hzn⟩ := zck_inv hz
    clear hz
    have hz := hzn
    clear hzn
    obtain rfl : kd = 102 := Nat.eq_of_beq_eq_true hk
    obtain ⟨h0, hzn⟩ := zpo_inv hz
    clear hz
    have hz := hzn
    clear hzn
    obtain ⟨⟨h1, h2⟩, hzn⟩ := zit_inv hz
    clear hz
    have hz := hzn
    clear hzn
    obtain ⟨hv, hzn⟩ := zbo_inv hz
    clear hz
    have hz := hzn
    clear hzn
    obtain ⟨k1, k2⟩ := hkf _ _ _ _ _ hL hz
    exact ⟨(zExt_set h0).tr k1, zs_bastore hx hb hK h0 h1 h2 hv hd k2⟩
  | aastore =>
    replace hlen : len = zlen _ := hlen
    subst hlen
    exact False.elim hI
  | ireturn =>
    replace hlen : len = zlen _ := hlen
    subst hlen
    replace hz : (match (generalizing := false) S with | [.inl a] => (match (generalizing := false) (ax.getD 0 0).toNat with | 0 => some (.inl a, h) | _ => zbo a (some (.inl a, h))) | _ => none) = some res := hz
    split at hz
    · obtain ⟨i1, i2⟩ := hI
      rw [i1] at hz
      rcases i2 with i2 | i2
      · subst i2
        cases hz
        exact ⟨zExt.rf h, zs_ireturn (S := []) hx hb hK hlo hret hd⟩
      · subst i2
        obtain ⟨ha, hzn⟩ := zbo_inv hz
        clear hz
        have hz := hzn
        clear hzn
        cases hz
        exact ⟨zExt.rf h, zs_zreturn (S := []) hx hb hK hlo ha hret hd⟩
    · cases hz
  | lreturn =>
    replace hlen : len = zlen _ := hlen
    subst hlen
    replace hz : (match (generalizing := false) S with | [.inr (.inl a)] => some (.inr (.inl a), h) | _ => none) = some res := hz
    split at hz
    · cases hz
      replace hI : rk = 1 := hI
      subst hI
      exact ⟨zExt.rf h, zs_lreturn (S := []) hx hb hK hlo hret hd⟩
    · cases hz
  | return_ =>
    replace hlen : len = zlen _ := hlen
    subst hlen
    replace hz : (match (generalizing := false) S with | [] => some (.inl 0, h) | _ => none) = some res := hz
    split at hz
    · cases hz
      replace hI : rk = 2 := hI
      subst hI
      exact ⟨zExt.rf h, zs_vreturn (S := []) hx hb hK hlo hret hd⟩
    · cases hz
  | getfield idx =>
    replace hlen : len = zlen _ := hlen
    subst hlen
    obtain ⟨r, k, w, SS, rfl, hzn⟩ := zpr_inv hz
    clear hz
    have hz := hzn
    clear hzn
    obtain ⟨ci, j, ty, kd, len, off, tl, C, T, N, tf, rfl, hci, hcl, hlk, hty, hfk⟩ := hI
    replace hz : zck (Nat.beq k ((ci : Nat) : Int).toNat) (zpo r (match (generalizing := false) ((ty : Nat) : Int).toNat with | 1 => kf (pc + 3) L (.inr (.inl (h r j)) :: SS) h | 3 => kf (pc + 3) L (zrf (h r j) ((kd : Nat) : Int).toNat ((len : Nat) : Int).toNat :: SS) h | 4 => kf (pc + 3) L (zrf (match (generalizing := false) md with | true => r + off | false => h r j) ((kd : Nat) : Int).toNat ((len : Nat) : Int).toNat :: SS) h | _ => kf (pc + 3) L (.inl (h r j) :: SS) h)) = some res := hz
    obtain ⟨hk, hzn⟩ := zck_inv hz
    clear hz
    have hz := hzn
    clear hzn
    rw [Int.toNat_natCast] at hk
    obtain rfl : k = ci := Nat.eq_of_beq_eq_true hk
    obtain ⟨h0, hzn⟩ := zpo_inv hz
    clear hz
    have hz := hzn
    clear hzn
    rw [Int.toNat_natCast, Int.toNat_natCast, Int.toNat_natCast] at hz
    have hty4 := (hcl.2.2.2.2.2.1 j ty hty).1
    by_cases q1 : ty = 1
    · subst q1
      obtain ⟨k1, k2⟩ := hkf _ _ _ _ _ hL hz
      exact ⟨k1, zs_getf (v := .inr (.inl (h r j))) hx hb hK hts hown hcl hci hlk hty h0 hd (fun ad _ _ => rfl) (fun hW hr => (zfld hW hr h0 hci hty).2.1 rfl) k2⟩
    by_cases q3 : ty = 3
    · subst q3
      obtain ⟨k1, k2⟩ := hkf _ _ _ _ _ hL hz
      exact ⟨k1, zs_getf hx hb hK hts hown hcl hci hlk hty h0 hd (fun ad _ _ => rfl) (fun hW hr => by have := (zfld hW hr h0 hci hty).2.2.2.1 (by omega); rw [hfk] at this; exact this) k2⟩
    by_cases q4 : ty = 4
    · subst q4
      obtain ⟨k1, k2⟩ := hkf _ _ _ _ _ hL hz
      have hval : zWF md FT FK EL h → zRef h r k w → (match (generalizing := false) md with | true => r + off | false => h r j) = h r j := fun hW hr => by
        have h5 := (zfld hW hr h0 hci hty).2.2.2.2 rfl
        rw [hfk] at h5
        cases md
        · rfl
        · have := h5 rfl
          show r + off = h r j
          rw [this]
          show r + off = (r.toNat : Int) + off
          omega
      exact ⟨k1, zs_getf hx hb hK hts hown hcl hci hlk hty h0 hd (fun ad hW hr => by rw [hval hW hr]; rfl) (fun hW hr => by have := (zfld hW hr h0 hci hty).2.2.2.1 (by omega); rw [hfk] at this; rw [hval hW hr]; exact this) k2⟩
    obtain ⟨k1, k2⟩ : zExt h res.2 ∧ zA p l e s m args below meth c D cl A n0 s0 ad0 md FT FK EL cs SC rk d res (pc + 3) L (.inl (h r j) :: SS) h := by
      rcases (show ty = 0 ∨ ty = 2 by omega) with e1 | e1
      · subst e1; exact hkf _ _ _ _ _ hL hz
      · subst e1; exact hkf _ _ _ _ _ hL hz
    refine ⟨k1, zs_getf hx hb hK hts hown hcl hci hlk hty h0 hd (fun ad _ _ => ?_) (fun hW hr => ?_) k2⟩
    · unfold zfv; rw [if_neg q1, if_neg (by omega)]; rfl
    · have hf := zfld hW hr h0 hci hty
      rcases (show ty = 0 ∨ ty = 2 by omega) with e1 | e1
      · exact hf.1 e1
      · rcases hf.2.2.1 e1 with e2 | e2 <;> (show zI32 (h r j); rw [e2]; unfold zI32; omega)
  | putfield idx =>
    replace hlen : len = zlen _ := hlen
    subst hlen
    obtain ⟨⟨ci, j, ty, kd, len, off, tl, C, T, N, tf, rfl, hci, hcl, hlk, hty, hfk⟩, hmt⟩ := hI
    replace hz : (match (generalizing := false) ((ty : Nat) : Int).toNat with | 0 => (zpi S fun v S => zpr S fun r k _ S => zck (Nat.beq k ((ci : Nat) : Int).toNat) (zpo r (kf (pc + 3) L S (zset h r j v)))) | 1 => (zpl S fun v S => zpr S fun r k _ S => zck (Nat.beq k ((ci : Nat) : Int).toNat) (zpo r (kf (pc + 3) L S (zset h r j v)))) | 2 => (zpi S fun v S => zpr S fun r k _ S => zck (Nat.beq k ((ci : Nat) : Int).toNat) (zpo r (zbo v (kf (pc + 3) L S (zset h r j v))))) | 3 => (zpr S fun v kv wv S => zpr S fun r k _ S => zck (Nat.beq k ((ci : Nat) : Int).toNat && (Nat.beq kv ((kd : Nat) : Int).toNat && Nat.beq wv ((len : Nat) : Int).toNat)) (zpo r (kf (pc + 3) L S (zset h r j v)))) | 4 => zck (!md) (zpr S fun v kv wv S => zpr S fun r k _ S => zck (Nat.beq k ((ci : Nat) : Int).toNat && (Nat.beq kv ((kd : Nat) : Int).toNat && Nat.beq wv ((len : Nat) : Int).toNat)) (zpo r (kf (pc + 3) L S (zset h r j v)))) | _ => none) = some res := hz
    rw [Int.toNat_natCast] at hz
    have hty4 := (hcl.2.2.2.2.2.1 j ty hty).1
    by_cases q0 : ty = 0
    · subst q0
      obtain ⟨v, S0, rfl, hzn⟩ := zpi_inv hz
      clear hz
      have hz := hzn
      clear hzn
      obtain ⟨r, k, w, SS, rfl, hzn⟩ := zpr_inv hz
      clear hz
      have hz := hzn
      clear hzn
      obtain ⟨hk, hzn⟩ := zck_inv hz
      clear hz
      have hz := hzn
      clear hzn
      rw [Int.toNat_natCast] at hk
      obtain rfl : k = ci := Nat.eq_of_beq_eq_true hk
      obtain ⟨h0, hzn⟩ := zpo_inv hz
      clear hz
      have hz := hzn
      clear hzn
      obtain ⟨k1, k2⟩ := hkf _ _ _ _ _ hL hz
      exact ⟨(zExt_set h0).tr k1, zs_putf hx hb hK hts hown hcl hci hlk hty (by omega) h0 hd (fun ad => rfl) (fun hn => ⟨fun _ => hn, fun q => by omega, fun q => by omega, fun q => by omega, fun q => by omega⟩) k2⟩
    by_cases q1 : ty = 1
    · subst q1
      obtain ⟨v, S0, rfl, hzn⟩ := zpl_inv hz
      clear hz
      have hz := hzn
      clear hzn
      obtain ⟨r, k, w, SS, rfl, hzn⟩ := zpr_inv hz
      clear hz
      have hz := hzn
      clear hzn
      obtain ⟨hk, hzn⟩ := zck_inv hz
      clear hz
      have hz := hzn
      clear hzn
      rw [Int.toNat_natCast] at hk
      obtain rfl : k = ci := Nat.eq_of_beq_eq_true hk
      obtain ⟨h0, hzn⟩ := zpo_inv hz
      clear hz
      have hz := hzn
      clear hzn
      obtain ⟨k1, k2⟩ := hkf _ _ _ _ _ hL hz
      exact ⟨(zExt_set h0).tr k1, zs_putf hx hb hK hts hown hcl hci hlk hty (by omega) h0 hd (fun ad => rfl) (fun hn => ⟨fun q => by omega, fun _ => hn, fun q => by omega, fun q => by omega, fun q => by omega⟩) k2⟩
    by_cases q2 : ty = 2
    · subst q2
      obtain ⟨v, S0, rfl, hzn⟩ := zpi_inv hz
      clear hz
      have hz := hzn
      clear hzn
      obtain ⟨r, k, w, SS, rfl, hzn⟩ := zpr_inv hz
      clear hz
      have hz := hzn
      clear hzn
      obtain ⟨hk, hzn⟩ := zck_inv hz
      clear hz
      have hz := hzn
      clear hzn
      rw [Int.toNat_natCast] at hk
      obtain rfl : k = ci := Nat.eq_of_beq_eq_true hk
      obtain ⟨h0, hzn⟩ := zpo_inv hz
      clear hz
      have hz := hzn
      clear hzn
      obtain ⟨hv, hzn⟩ := zbo_inv hz
      clear hz
      have hz := hzn
      clear hzn
      obtain ⟨k1, k2⟩ := hkf _ _ _ _ _ hL hz
      exact ⟨(zExt_set h0).tr k1, zs_putf hx hb hK hts hown hcl hci hlk hty (by omega) h0 hd (fun ad => rfl) (fun hn => ⟨fun q => by omega, fun q => by omega, fun _ => hv, fun q => by omega, fun q => by omega⟩) k2⟩
    by_cases q3 : ty = 3
    · subst q3
      obtain ⟨v, kv, wv, S0, rfl, hzn⟩ := zpr_inv hz
      clear hz
      have hz := hzn
      clear hzn
      obtain ⟨r, k, w, SS, rfl, hzn⟩ := zpr_inv hz
      clear hz
      have hz := hzn
      clear hzn
      obtain ⟨hk, hzn⟩ := zck_inv hz
      clear hz
      have hz := hzn
      clear hzn
      rw [Int.toNat_natCast, Int.toNat_natCast, Int.toNat_natCast] at hk
      rw [Bool.and_eq_true, Bool.and_eq_true] at hk
      obtain ⟨hk, hk2, hk3⟩ := hk
      obtain rfl : k = ci := Nat.eq_of_beq_eq_true hk
      obtain rfl : kv = kd := Nat.eq_of_beq_eq_true hk2
      obtain rfl : wv = len := Nat.eq_of_beq_eq_true hk3
      obtain ⟨h0, hzn⟩ := zpo_inv hz
      clear hz
      have hz := hzn
      clear hzn
      obtain ⟨k1, k2⟩ := hkf _ _ _ _ _ hL hz
      exact ⟨(zExt_set h0).tr k1, zs_putf hx hb hK hts hown hcl hci hlk hty (by omega) h0 hd (fun ad => rfl) (fun hn => ⟨fun q => by omega, fun q => by omega, fun q => by omega, fun _ => by rw [hfk]; exact hn, fun q => by omega⟩) k2⟩
    obtain rfl : ty = 4 := by omega
    obtain ⟨hmd, -⟩ := zck_inv hz
    rw [hmt] at hmd
    cases hmd
  | invokevirtual idx =>
    replace hlen : len = zlen _ := hlen
    subst hlen
    obtain ⟨y, n, ci, tl, C, T, N, rfl, hci, hcl, hlk, hin, hsel, hcal, hcal2⟩ := hI
    replace hz : (match (generalizing := false) ztake (((n + 1 : Nat) : Int)).toNat [] S with | some (.inr (.inr (r, k, w)) :: as, S) => zck (Nat.beq k ((ci : Nat) : Int).toNat && Nat.ble (zcat S) 8) (zpo r (match (generalizing := false) ((MT y).2.2.2.2.1).toNat with | 1 => zql (Φ ((y : Nat) : Int).toNat (zrf r k w :: as) h) fun a h => kf (pc + 3) L (.inr (.inl a) :: S) h | 2 => zqv (Φ ((y : Nat) : Int).toNat (zrf r k w :: as) h) fun h => kf (pc + 3) L S h | _ => zqi (Φ ((y : Nat) : Int).toNat (zrf r k w :: as) h) fun a h => kf (pc + 3) L (.inl a :: S) h)) | _ => none) = some res := hz
    rw [Int.toNat_natCast, Int.toNat_natCast, Int.toNat_natCast] at hz
    split at hz
    · rename_i r k w as SS htk
      obtain ⟨e1, e2⟩ := ztake_stk htk
      obtain ⟨hk, hzn⟩ := zck_inv hz
      clear hz
      have hz := hzn
      clear hzn
      rw [Bool.and_eq_true] at hk
      obtain rfl : k = ci := Nat.eq_of_beq_eq_true hk.1
      have hcat : zcat SS ≤ 8 := Nat.le_of_ble_eq_true hk.2
      obtain ⟨h0, hzn⟩ := zpo_inv hz
      clear hz
      have hz := hzn
      clear hzn
      have hna : as.length = n := by rw [List.length_cons] at e2; omega
      subst hna
      rw [List.reverse_cons, List.append_assoc] at e1
      replace e1 : S = as.reverse ++ .inr (.inr (r, k, w)) :: SS := e1
      subst e1
      obtain ⟨v1, h1, hφ, kk1, kk2⟩ : ∃ v1 h1, Φ y (zrf r k w :: as) h = some (v1, h1) ∧ zExt h1 res.2 ∧ zA p l e s m args below meth c D cl A n0 s0 ad0 md FT FK EL cs SC rk d res (pc + 3) L (zpush (MT y).2.2.2.2.1 v1 SS) h1 := by
        have hrk := (hcal2 : (MT y).2.2.2.2.1 = 0 ∨ (MT y).2.2.2.2.1 = 1 ∨ (MT y).2.2.2.2.1 = 2 ∨ (MT y).2.2.2.2.1 = 3)
        rcases hrk with q1 | q1 | q1 | q1
        · rw [q1] at hz ⊢
          obtain ⟨a, h1, g1, g2⟩ := zqi_inv hz
          obtain ⟨k1, k2⟩ := hkf _ _ _ _ _ hL g2
          exact ⟨_, h1, g1, k1, k2⟩
        · rw [q1] at hz ⊢
          obtain ⟨a, h1, g1, g2⟩ := zql_inv hz
          obtain ⟨k1, k2⟩ := hkf _ _ _ _ _ hL g2
          exact ⟨_, h1, g1, k1, k2⟩
        · rw [q1] at hz ⊢
          obtain ⟨a, h1, g1, g2⟩ := zqv_inv hz
          obtain ⟨k1, k2⟩ := hkf _ _ _ _ _ hL g2
          exact ⟨_, h1, g1, k1, k2⟩
        · rw [q1] at hz ⊢
          obtain ⟨a, h1, g1, g2⟩ := zqi_inv hz
          obtain ⟨k1, k2⟩ := hkf _ _ _ _ _ hL g2
          exact ⟨_, h1, g1, k1, k2⟩
      obtain ⟨hext, hM⟩ := hΦ y _ h _ hφ
      have hmm := zn_mono kk1
      exact ⟨hext.tr kk1, zs_callVN hx hb hK hA hts hgd hnw hown (hml.trans hL.symm) hM hlk hin hsel hcal hci hcl h0 hcat ⟨Nat.le_refl _, Nat.le_refl _⟩ hext ⟨Nat.sub_le_sub_right hmm.1 _, Nat.sub_le_sub_right hmm.2 _⟩ hd kk2⟩
    · cases hz
  | invokestatic idx =>
    replace hlen : len = zlen _ := hlen
    subst hlen
    rcases hI with ⟨tl, rfl, g1, g2, g3, g4⟩ | ⟨y, n, tl, rfl, hlk, hst, hcal, hcal2⟩
    · cases tl with
      | nil => cases hz
      | cons t1 tl =>
        cases tl with
        | nil => cases hz
        | cons t2 tl =>
          replace hz : (zpi S fun n S => zpi S fun dp S => zpr S fun d kd wd S => zpi S fun sp S => zpr S fun r k w S => zck (Nat.beq kd 100 && (Nat.beq k 100 && Nat.ble (zcat S) 8)) (zpo r (zpo d (if 0 ≤ sp ∧ 0 ≤ dp ∧ 0 ≤ n ∧ sp + n ≤ w ∧ dp + n ≤ wd then kf (pc + 3) L S (zcpy h d dp r sp n) else none)))) = some res := hz
          obtain ⟨n, S0, rfl, hzn⟩ := zpi_inv hz
          clear hz
          have hz := hzn
          clear hzn
          obtain ⟨dp, S1, rfl, hzn⟩ := zpi_inv hz
          clear hz
          have hz := hzn
          clear hzn
          obtain ⟨dd, kd, wd, S2, rfl, hzn⟩ := zpr_inv hz
          clear hz
          have hz := hzn
          clear hzn
          obtain ⟨sp, S3, rfl, hzn⟩ := zpi_inv hz
          clear hz
          have hz := hzn
          clear hzn
          obtain ⟨r, k, w, SS, rfl, hzn⟩ := zpr_inv hz
          clear hz
          have hz := hzn
          clear hzn
          obtain ⟨hk, hzn⟩ := zck_inv hz
          clear hz
          have hz := hzn
          clear hzn
          rw [Bool.and_eq_true, Bool.and_eq_true] at hk
          obtain rfl : kd = 100 := Nat.eq_of_beq_eq_true hk.1
          obtain rfl : k = 100 := Nat.eq_of_beq_eq_true hk.2.1
          have hcat : zcat SS ≤ 8 := Nat.le_of_ble_eq_true hk.2.2
          obtain ⟨h0, hzn⟩ := zpo_inv hz
          clear hz
          have hz := hzn
          clear hzn
          obtain ⟨h02, hzn⟩ := zpo_inv hz
          clear hz
          have hz := hzn
          clear hzn
          obtain ⟨hbd, hzn⟩ := zit_inv hz
          clear hz
          have hz := hzn
          clear hzn
          obtain ⟨k1, k2⟩ := hkf _ _ _ _ _ hL hz
          exact ⟨(zExt_cpy h02).tr k1, zs_copy hx hb hK (hml.trans hL.symm) hown (hts _ g1) (hts _ g2) (hts _ g3) (hts _ g4) ⟨h0, h02⟩ hbd hcat ⟨by show 1 ≤ d + 1; omega, by show 64 ≤ 128 * (d + 1); omega⟩ hd k2⟩
    · replace hz : (match (generalizing := false) decide (((y : Nat) : Int) = -2) with | true => (zpi S fun n S => zpi S fun dp S => zpr S fun d kd wd S => zpi S fun sp S => zpr S fun r k w S => zck (Nat.beq kd 100 && (Nat.beq k 100 && Nat.ble (zcat S) 8)) (zpo r (zpo d (if 0 ≤ sp ∧ 0 ≤ dp ∧ 0 ≤ n ∧ sp + n ≤ w ∧ dp + n ≤ wd then kf (pc + 3) L S (zcpy h d dp r sp n) else none)))) | false => (match (generalizing := false) ztake ((n : Nat) : Int).toNat [] S with | some (as, S) => zck (Nat.ble (zcat S) 8) (match (generalizing := false) ((MT y).2.2.2.2.1).toNat with | 1 => zql (Φ ((y : Nat) : Int).toNat as h) fun a h => kf (pc + 3) L (.inr (.inl a) :: S) h | 2 => zqv (Φ ((y : Nat) : Int).toNat as h) fun h => kf (pc + 3) L S h | _ => zqi (Φ ((y : Nat) : Int).toNat as h) fun a h => kf (pc + 3) L (.inl a :: S) h) | _ => none)) = some res := hz
      rw [decide_eq_false (by omega), Int.toNat_natCast, Int.toNat_natCast] at hz
      replace hz : (match (generalizing := false) ztake n [] S with | some (as, S) => zck (Nat.ble (zcat S) 8) (match (generalizing := false) ((MT y).2.2.2.2.1).toNat with | 1 => zql (Φ y as h) fun a h => kf (pc + 3) L (.inr (.inl a) :: S) h | 2 => zqv (Φ y as h) fun h => kf (pc + 3) L S h | _ => zqi (Φ y as h) fun a h => kf (pc + 3) L (.inl a :: S) h) | _ => none) = some res := hz
      split at hz
      · rename_i as SS htk
        obtain ⟨rfl, rfl⟩ := ztake_stk htk
        obtain ⟨hk, hzn⟩ := zck_inv hz
        clear hz
        have hz := hzn
        clear hzn
        have hcat : zcat SS ≤ 8 := Nat.le_of_ble_eq_true hk
        obtain ⟨v1, h1, hφ, kk1, kk2⟩ : ∃ v1 h1, Φ y as h = some (v1, h1) ∧ zExt h1 res.2 ∧ zA p l e s m args below meth c D cl A n0 s0 ad0 md FT FK EL cs SC rk d res (pc + 3) L (zpush (MT y).2.2.2.2.1 v1 SS) h1 := by
          have hrk := (hcal2 : (MT y).2.2.2.2.1 = 0 ∨ (MT y).2.2.2.2.1 = 1 ∨ (MT y).2.2.2.2.1 = 2 ∨ (MT y).2.2.2.2.1 = 3)
          rcases hrk with q1 | q1 | q1 | q1
          · rw [q1] at hz ⊢
            obtain ⟨a, h1, g1, g2⟩ := zqi_inv hz
            obtain ⟨k1, k2⟩ := hkf _ _ _ _ _ hL g2
            exact ⟨_, h1, g1, k1, k2⟩
          · rw [q1] at hz ⊢
            obtain ⟨a, h1, g1, g2⟩ := zql_inv hz
            obtain ⟨k1, k2⟩ := hkf _ _ _ _ _ hL g2
            exact ⟨_, h1, g1, k1, k2⟩
          · rw [q1] at hz ⊢
            obtain ⟨a, h1, g1, g2⟩ := zqv_inv hz
            obtain ⟨k1, k2⟩ := hkf _ _ _ _ _ hL g2
            exact ⟨_, h1, g1, k1, k2⟩
          · rw [q1] at hz ⊢
            obtain ⟨a, h1, g1, g2⟩ := zqi_inv hz
            obtain ⟨k1, k2⟩ := hkf _ _ _ _ _ hL g2
            exact ⟨_, h1, g1, k1, k2⟩
        obtain ⟨hext, hM⟩ := hΦ y _ h _ hφ
        have hmm := zn_mono kk1
        rcases hlk with hlk | ⟨host, hlk⟩
        · exact ⟨hext.tr kk1, zs_callSN hx hb hK hA hts hgd hnw hown (hml.trans hL.symm) hM hlk hst hcal hcat ⟨Nat.le_refl _, Nat.le_refl _⟩ hext ⟨Nat.sub_le_sub_right hmm.1 _, Nat.sub_le_sub_right hmm.2 _⟩ hd kk2⟩
        · exact ⟨hext.tr kk1, zs_callNN hx hb hK hA hts hgd hnw hown (hml.trans hL.symm) hM hlk hst hcal hcat ⟨Nat.le_refl _, Nat.le_refl _⟩ hext ⟨Nat.sub_le_sub_right hmm.1 _, Nat.sub_le_sub_right hmm.2 _⟩ hd kk2⟩
      · cases hz
  | invokespecial idx =>
    replace hlen : len = zlen _ := hlen
    subst hlen
    exact False.elim hI
  | new idx =>
    replace hlen : len = zlen _ := hlen
    subst hlen
    exact False.elim hI
  | newarray t =>
    replace hlen : len = zlen _ := hlen
    subst hlen
    exact False.elim hI
  | anewarray idx =>
    replace hlen : len = zlen _ := hlen
    subst hlen
    exact False.elim hI
  | _ => exact absurd hz (by intro q; cases q)
