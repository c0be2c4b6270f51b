theorem zKs_sel {p : Program} {l : Launch} {e : Env} {s : State} {m : MethodId} {args : Array Value} {below : List Frame} {meth : Method} {c : Code} {D : va_G} {cl : List vw_C} {A : Nat → Prop} {n0 s0 : Nat} {ad0 : Nat → Nat} {md : Bool} {FT : Nat → List Nat} {FK : Nat → Nat → Nat × Nat × Int} {EL : Nat → Nat × Nat} {cs : Nat → ClassId} {SC : String} {rk : Int} {d : Nat} {nL : Nat} (b : Bool) {K N : zC} (h1 : zKs p l e s m args below meth c D cl A n0 s0 ad0 md FT FK EL cs SC rk d nL K) (h2 : zKs p l e s m args below meth c D cl A n0 s0 ad0 md FT FK EL cs SC rk d nL N) : zKs p l e s m args below meth c D cl A n0 s0 ad0 md FT FK EL cs SC rk d nL (match b with | true => K | false => N) := by
  cases b
  · exact h2
  · exact h1
theorem zmask_gd : ∀ (m : List Bool) (L : zL) (i : Nat) (v : zV), (zmask m L).getD i none = some v → L.getD i none = some v
  | [], _, _, _, h => h
  | true :: m, [], _, _, h => h
  | false :: m, [], _, _, h => h
  | true :: m, x :: L, 0, v, h => h
  | true :: m, x :: L, i + 1, v, h => zmask_gd m L i v h
  | false :: m, x :: L, 0, v, h => by cases h
  | false :: m, x :: L, i + 1, v, h => zmask_gd m L i v h
theorem zmask_len : ∀ (m : List Bool) (L : zL), (zmask m L).length = L.length
  | [], _ => rfl
  | true :: m, [] => rfl
  | false :: m, [] => rfl
  | true :: m, x :: L => congrArg (· + 1) (zmask_len m L)
  | false :: m, x :: L => congrArg (· + 1) (zmask_len m L)
theorem zmsk_ok (pc : Nat) (L : zL) : ∀ ct : List (Nat × List Bool), (zmsk ct pc L).length = L.length ∧ ∀ (i : Nat) (v : zV), (zmsk ct pc L).getD i none = some v → L.getD i none = some v
  | [] => ⟨rfl, fun _ _ h => h⟩
  | (p, m) :: r => by
    have ih := zmsk_ok pc L r
    unfold zmsk
    cases Nat.beq p pc
    · exact ih
    · exact ⟨zmask_len m L, zmask_gd m L⟩
def zcut (ct : List (Nat × List Bool)) (k : zC) : zC := fun pc L S h => k pc (zmsk ct pc L) S h
theorem zcut_sound {p : Program} {l : Launch} {e : Env} {s : State} {m : MethodId} {args : Array Value} {below : List Frame} {meth : Method} {c : Code} {D : va_G} {cl : List vw_C} {A : Nat → Prop} {n0 s0 : Nat} {ad0 : Nat → Nat} {md : Bool} {FT : Nat → List Nat} {FK : Nat → Nat → Nat × Nat × Int} {EL : Nat → Nat × Nat} {cs : Nat → ClassId} {SC : String} {rk : Int} {d : Nat} {nL : Nat} {K : zC} (ct : List (Nat × List Bool)) (hK : zKs p l e s m args below meth c D cl A n0 s0 ad0 md FT FK EL cs SC rk d nL K) : zKs p l e s m args below meth c D cl A n0 s0 ad0 md FT FK EL cs SC rk d nL (zcut ct K) := by
  intro pc L S h res hL hz
  obtain ⟨m1, m2⟩ := zmsk_ok pc L ct
  obtain ⟨k1, k2⟩ := hK pc _ S h res (m1.trans hL) hz
  refine ⟨k1, ?_⟩
  intro ad H locs ls hSt hNL hNS hl
  exact k2 ad H locs ls hSt (fun i v hv => hNL i v (m2 i v hv)) hNS (zLs_of hl m1.symm (fun i v hv => zla_mem.mpr ⟨v, m2 i v hv, rfl⟩))
theorem zseg_cons {md : Bool} {FT : Nat → List Nat} {EL : Nat → Nat × Nat} {Φ : Nat → List zV → zH → zR} {K : zC} {q : zRow} {rows : List zRow} {t : Nat} {L : zL} {S : List zV} {h : zH} : zseg md FT EL Φ K (q :: rows) t L S h = (match (generalizing := false) Nat.beq t q.1 with | true => zins md FT EL Φ (match (generalizing := false) q.2.2.2.1 with | true => K | false => zseg md FT EL Φ K rows) (match (generalizing := false) q.2.2.2.2.1 with | true => K | false => zseg md FT EL Φ K rows) q.1 q.2.2.1 q.2.2.2.2.2 L S h | false => zseg md FT EL Φ K rows t L S h) := rfl
theorem zseg_sound {p : Program} {l : Launch} {e : Env} {s : State} {m : MethodId} {args : Array Value} {below : List Frame} {meth : Method} {c : Code} {D : va_G} {cl : List vw_C} {A : Nat → Prop} {n0 s0 : Nat} {ad0 : Nat → Nat} {md : Bool} {FT : Nat → List Nat} {FK : Nat → Nat → Nat × Nat × Int} {EL : Nat → Nat × Nat} {cs : Nat → ClassId} {SC : String} {rk : Int} {d : Nat} {cc : ByteArray} (hx : p.tables.exec = Jvm.exec) (hb : c.code = cc) (hK : va_K D cl (ztys cs SC) s) (hA : ∀ q, s.heap.size ≤ q → A q) {Ts : List Cond} (hts : ∀ w ∈ Ts, w.before args s = true) (hgd : ∀ w ∈ Ts, goodWord w = true) {own : String} (hown : s.vm.findClass own = some m.cls) {nL : Nat} (hml : c.maxLocals = nL) (hlo : meth.locks = false) (hret : meth.sig.returnType = zrt rk) {MT : Nat → zMD} {Φ : Nat → List zV → zH → zR} (hΦ : zPs l Ts cl md FT FK EL SC MT d Φ) {K : zC} (hKs : zKs p l e s m args below meth c D cl A n0 s0 ad0 md FT FK EL cs SC rk d nL K) : ∀ rows : List zRow, (∀ q ∈ rows, zRok md Ts cl FT FK MT own rk cc q) → zKs p l e s m args below meth c D cl A n0 s0 ad0 md FT FK EL cs SC rk d nL (zseg md FT EL Φ K rows)
  | [], _ => fun pc L S h res hL hz => by cases hz
  | q :: rows, hr => by
    have ih := zseg_sound hx hb hK hA hts hgd hown hml hlo hret hΦ hKs rows (fun q hq => hr q (List.mem_cons_of_mem _ hq))
    intro t L S h res hL hz
    rw [zseg_cons] at hz
    obtain ⟨r1, r2, r3⟩ := hr q List.mem_cons_self
    by_cases e1 : t = q.1
    · rw [show Nat.beq t q.1 = true by rw [e1]; exact Nat.beq_refl _] at hz
      rw [e1]
      exact zins_sound hx hb hK hA hts hgd hown hml hlo hret hΦ (zKs_sel _ hKs ih) (zKs_sel _ hKs ih) r1 r2 r3 hL hz
    · rw [show Nat.beq t q.1 = false from by cases hq : Nat.beq t q.1; rfl; exact absurd (Nat.eq_of_beq_eq_true hq) e1] at hz
      exact ih t L S h res hL hz
theorem zev_sound {p : Program} {l : Launch} {e : Env} {s : State} {m : MethodId} {args : Array Value} {below : List Frame} {meth : Method} {c : Code} {D : va_G} {cl : List vw_C} {A : Nat → Prop} {n0 s0 : Nat} {ad0 : Nat → Nat} {md : Bool} {FT : Nat → List Nat} {FK : Nat → Nat → Nat × Nat × Int} {EL : Nat → Nat × Nat} {cs : Nat → ClassId} {SC : String} {rk : Int} {d : Nat} {cc : ByteArray} (hx : p.tables.exec = Jvm.exec) (hb : c.code = cc) (hK : va_K D cl (ztys cs SC) s) (hA : ∀ q, s.heap.size ≤ q → A q) {Ts : List Cond} (hts : ∀ w ∈ Ts, w.before args s = true) (hgd : ∀ w ∈ Ts, goodWord w = true) {own : String} (hown : s.vm.findClass own = some m.cls) {nL : Nat} (hml : c.maxLocals = nL) (hlo : meth.locks = false) (hret : meth.sig.returnType = zrt rk) {MT : Nat → zMD} {Φ : Nat → List zV → zH → zR} (hΦ : zPs l Ts cl md FT FK EL SC MT d Φ) {rows : List zRow} (ct : List (Nat × List Bool)) (hr : ∀ q ∈ rows, zRok md Ts cl FT FK MT own rk cc q) : ∀ f, zKs p l e s m args below meth c D cl A n0 s0 ad0 md FT FK EL cs SC rk d nL (zev md FT EL Φ rows ct f)
  | 0 => fun pc L S h res hL hz => by cases hz
  | f + 1 => zseg_sound hx hb hK hA hts hgd hown hml hlo hret hΦ (zcut_sound ct (zev_sound hx hb hK hA hts hgd hown hml hlo hret hΦ ct hr f)) rows hr
theorem zseg_tail {md : Bool} {FT : Nat → List Nat} {EL : Nat → Nat × Nat} {Φ : Nat → List zV → zH → zR} (hΦ : zPe Φ) {K : zC} : ∀ (rows : List zRow) (pc : Nat) (L : zL) (S : List zV) (h : zH) (res : zV × zH), zseg md FT EL Φ K rows pc L S h = some res →
    (∃ pc1 L1 S1 h1, zExt h h1 ∧ K pc1 L1 S1 h1 = some res ∧ ∀ Φ1 K1, zLe Φ Φ1 → K1 pc1 L1 S1 h1 = some res → zseg md FT EL Φ1 K1 rows pc L S h = some res) ∨
    (zExt h res.2 ∧ ∀ Φ1 K1, zLe Φ Φ1 → zseg md FT EL Φ1 K1 rows pc L S h = some res)
  | [], pc, L, S, h, res, hz => by cases hz
  | q :: rows, pc, L, S, h, res, hz => by
    rw [zseg_cons] at hz
    by_cases e1 : Nat.beq pc q.1 = true
    · rw [e1] at hz
      have sel : ∀ (b : Bool) (pc1 : Nat) (L1 : zL) (S1 : List zV) (h1 : zH), zExt h h1 → (match (generalizing := false) b with | true => K | false => zseg md FT EL Φ K rows) pc1 L1 S1 h1 = some res →
          (∃ pc2 L2 S2 h2, zExt h h2 ∧ K pc2 L2 S2 h2 = some res ∧ ∀ Φ1 K1, zLe Φ Φ1 → K1 pc2 L2 S2 h2 = some res → (match (generalizing := false) b with | true => K1 | false => zseg md FT EL Φ1 K1 rows) pc1 L1 S1 h1 = some res) ∨ (zExt h res.2 ∧ ∀ Φ1 K1, zLe Φ Φ1 → (match (generalizing := false) b with | true => K1 | false => zseg md FT EL Φ1 K1 rows) pc1 L1 S1 h1 = some res) := by
        intro b pc1 L1 S1 h1 he hk
        cases b with
        | true => exact Or.inl ⟨pc1, L1, S1, h1, he, hk, fun _ _ _ q => q⟩
        | false =>
          rcases zseg_tail hΦ rows pc1 L1 S1 h1 res hk with ⟨pc2, L2, S2, h2, g1, g2, g3⟩ | ⟨g1, g3⟩
          · exact Or.inl ⟨pc2, L2, S2, h2, he.tr g1, g2, g3⟩
          · exact Or.inr ⟨he.tr g1, g3⟩
      rcases zins_tail hΦ md FT EL q.1 q.2.2.1 q.2.2.2.2.2 L S res hz with ⟨pc1, L1, S1, h1, g1, g2, g3⟩ | ⟨pc1, L1, S1, h1, g1, g2, g3⟩ | ⟨g1, g3⟩
      · rcases sel _ pc1 L1 S1 h1 g1 g2 with ⟨pc2, L2, S2, h2, k1, k2, k3⟩ | ⟨k1, k3⟩
        · exact Or.inl ⟨pc2, L2, S2, h2, k1, k2, fun Φ1 K1 hl hk => by rw [zseg_cons, e1]; exact g3 Φ1 _ _ hl (k3 Φ1 K1 hl hk)⟩
        · exact Or.inr ⟨k1, fun Φ1 K1 hl => by rw [zseg_cons, e1]; exact g3 Φ1 _ _ hl (k3 Φ1 K1 hl)⟩
      · rcases sel _ pc1 L1 S1 h1 g1 g2 with ⟨pc2, L2, S2, h2, k1, k2, k3⟩ | ⟨k1, k3⟩
        · exact Or.inl ⟨pc2, L2, S2, h2, k1, k2, fun Φ1 K1 hl hk => by rw [zseg_cons, e1]; exact g3 Φ1 _ _ hl (k3 Φ1 K1 hl hk)⟩
        · exact Or.inr ⟨k1, fun Φ1 K1 hl => by rw [zseg_cons, e1]; exact g3 Φ1 _ _ hl (k3 Φ1 K1 hl)⟩
      · exact Or.inr ⟨g1, fun Φ1 K1 hl => by rw [zseg_cons, e1]; exact g3 Φ1 _ _ hl⟩
    · have e2 : Nat.beq pc q.1 = false := by cases hq : Nat.beq pc q.1; rfl; exact absurd hq e1
      rw [e2] at hz
      rcases zseg_tail hΦ rows pc L S h res hz with ⟨pc2, L2, S2, h2, g1, g2, g3⟩ | ⟨g1, g3⟩
      · exact Or.inl ⟨pc2, L2, S2, h2, g1, g2, fun Φ1 K1 hl hk => by rw [zseg_cons, e2]; exact g3 Φ1 K1 hl hk⟩
      · exact Or.inr ⟨g1, fun Φ1 K1 hl => by rw [zseg_cons, e2]; exact g3 Φ1 K1 hl⟩
theorem zev_mono {md : Bool} {FT : Nat → List Nat} {EL : Nat → Nat × Nat} {Φ Φ1 : Nat → List zV → zH → zR} (hΦ : zPe Φ) (hl : zLe Φ Φ1) {rows : List zRow} {ct : List (Nat × List Bool)} : ∀ (f g : Nat), f ≤ g → ∀ (pc : Nat) (L : zL) (S : List zV) (h : zH) (res : zV × zH), zev md FT EL Φ rows ct f pc L S h = some res → zev md FT EL Φ1 rows ct g pc L S h = some res
  | 0, _, _, _, _, _, _, _, hz => by cases hz
  | f + 1, 0, hfg, _, _, _, _, _, _ => by omega
  | f + 1, g + 1, hfg, pc, L, S, h, res, hz => by
    rcases zseg_tail hΦ rows pc L S h res hz with ⟨pc1, L1, S1, h1, g1, g2, g3⟩ | ⟨g1, g3⟩
    · exact g3 Φ1 _ hl (zev_mono hΦ hl f g (by omega) pc1 _ S1 h1 res g2)
    · exact g3 Φ1 _ hl
theorem zev_ext {md : Bool} {FT : Nat → List Nat} {EL : Nat → Nat × Nat} {Φ : Nat → List zV → zH → zR} (hΦ : zPe Φ) {rows : List zRow} {ct : List (Nat × List Bool)} : ∀ (f : Nat), zKe (zev md FT EL Φ rows ct f)
  | 0 => fun pc L S h res hz => by cases hz
  | f + 1 => fun pc L S h res hz => by
    rcases zseg_tail hΦ rows pc L S h res hz with ⟨pc1, L1, S1, h1, g1, g2, g3⟩ | ⟨g1, g3⟩
    · exact g1.tr (zev_ext hΦ f pc1 _ S1 h1 res g2)
    · exact g1
/-- the run without fuel -/
noncomputable def zgo (md : Bool) (FT : Nat → List Nat) (EL : Nat → Nat × Nat) (Φ : Nat → List zV → zH → zR) (rows : List zRow) (ct : List (Nat × List Bool)) : zC := fun pc L S h => Classical.epsilon (fun x : zR => ∀ r, x = some r ↔ ∃ f, zev md FT EL Φ rows ct f pc L S h = some r)
theorem zLe.rf (Φ : Nat → List zV → zH → zR) : zLe Φ Φ := fun _ _ _ _ h => h
theorem zgo_iff {md : Bool} {FT : Nat → List Nat} {EL : Nat → Nat × Nat} {Φ : Nat → List zV → zH → zR} (hΦ : zPe Φ) {rows : List zRow} {ct : List (Nat × List Bool)} {pc : Nat} {L : zL} {S : List zV} {h : zH} (r : zV × zH) : zgo md FT EL Φ rows ct pc L S h = some r ↔ ∃ f, zev md FT EL Φ rows ct f pc L S h = some r := by
  have hex : ∃ x : zR, ∀ r, x = some r ↔ ∃ f, zev md FT EL Φ rows ct f pc L S h = some r := by
    by_cases q : ∃ r f, zev md FT EL Φ rows ct f pc L S h = some r
    · obtain ⟨r0, f0, e0⟩ := q
      refine ⟨some r0, fun r => ⟨fun e => by cases e; exact ⟨f0, e0⟩, fun ⟨f, e⟩ => ?_⟩⟩
      have a1 := zev_mono hΦ (zLe.rf Φ) f (f + f0) (by omega) _ _ _ _ _ e
      have a2 := zev_mono hΦ (zLe.rf Φ) f0 (f + f0) (by omega) _ _ _ _ _ e0
      exact a2.symm.trans a1
    · exact ⟨none, fun r => ⟨(fun e => by cases e), fun ⟨f, e⟩ => absurd ⟨r, f, e⟩ q⟩⟩
  exact Classical.epsilon_spec hex r
theorem zopt_ext {x y : zR} (h1 : ∀ r, x = some r → y = some r) (h2 : ∀ r, y = some r → x = some r) : x = y := by
  cases x with
  | none => cases y with
    | none => rfl
    | some r => exact h2 r rfl
  | some r => exact (h1 r rfl).symm
theorem zgo_eq {md : Bool} {FT : Nat → List Nat} {EL : Nat → Nat × Nat} {Φ : Nat → List zV → zH → zR} (hΦ : zPe Φ) {rows : List zRow} {ct : List (Nat × List Bool)} {pc : Nat} {L : zL} {S : List zV} {h : zH} : zgo md FT EL Φ rows ct pc L S h = zseg md FT EL Φ (zcut ct (zgo md FT EL Φ rows ct)) rows pc L S h := by
  refine zopt_ext (fun r hr => ?_) (fun r hr => ?_)
  · obtain ⟨f, e⟩ := (zgo_iff hΦ r).mp hr
    cases f with
    | zero => cases e
    | succ f =>
      rcases zseg_tail hΦ rows pc L S h r e with ⟨pc1, L1, S1, h1, g1, g2, g3⟩ | ⟨g1, g3⟩
      · exact g3 Φ _ (zLe.rf Φ) ((zgo_iff hΦ r).mpr ⟨f, g2⟩)
      · exact g3 Φ _ (zLe.rf Φ)
  · rw [zgo_iff hΦ]
    rcases zseg_tail hΦ rows pc L S h r hr with ⟨pc1, L1, S1, h1, g1, g2, g3⟩ | ⟨g1, g3⟩
    · obtain ⟨f, e⟩ := (zgo_iff hΦ r).mp g2
      exact ⟨f + 1, g3 Φ _ (zLe.rf Φ) e⟩
    · exact ⟨1, g3 Φ _ (zLe.rf Φ)⟩
theorem zloc_args (ad : Nat → Nat) : ∀ (as : List zV) (n i : Nat) (v : zV), (zloc as).getD i none = some v → (n + i, zc ad v) ∈ lv_args n (as.map (zc ad))
  | [], n, i, v, h => by cases i <;> cases h
  | .inl a :: as, n, i, v, h => by
    rw [List.map_cons, lv_args, if_neg (by simp [zc, Value.category])]
    cases i with
    | zero => cases h; exact List.mem_cons_self
    | succ i =>
      have := zloc_args ad as (n + 1) i v h
      rw [show n + (i + 1) = n + 1 + i by omega]
      exact List.mem_cons_of_mem _ this
  | .inr (.inr q) :: as, n, i, v, h => by
    rw [List.map_cons, lv_args, if_neg (fun e => by obtain ⟨a, ha⟩ := (zcat_zc ad _).mp e; cases ha)]
    cases i with
    | zero => cases h; exact List.mem_cons_self
    | succ i =>
      have := zloc_args ad as (n + 1) i v h
      rw [show n + (i + 1) = n + 1 + i by omega]
      exact List.mem_cons_of_mem _ this
  | .inr (.inl a) :: as, n, i, v, h => by
    rw [List.map_cons, lv_args, if_pos (show (zc ad (.inr (.inl a))).category = 2 from rfl)]
    cases i with
    | zero => cases h; exact List.mem_cons_self
    | succ i =>
      cases i with
      | zero => cases h
      | succ i =>
        have := zloc_args ad as (n + 2) i v h
        rw [show n + (i + 1 + 1) = n + 2 + i by omega]
        exact List.mem_cons_of_mem _ this
theorem zloc_len (ad : Nat → Nat) : ∀ as : List zV, (lg_sl (as.map (zc ad))).length = (zloc as).length
  | [] => rfl
  | .inl a :: as => by
    have := zloc_len ad as
    unfold lg_sl at this ⊢
    rw [List.map_cons, List.flatMap_cons, if_neg (by simp [zc, Value.category]), List.length_append, this]
    show 1 + (zloc as).length = (zloc as).length + 1
    omega
  | .inr (.inr q) :: as => by
    have := zloc_len ad as
    unfold lg_sl at this ⊢
    rw [List.map_cons, List.flatMap_cons, if_neg (fun e => by obtain ⟨a, ha⟩ := (zcat_zc ad _).mp e; cases ha), List.length_append, this]
    show 1 + (zloc as).length = (zloc as).length + 1
    omega
  | .inr (.inl a) :: as => by
    have := zloc_len ad as
    unfold lg_sl at this ⊢
    rw [List.map_cons, List.flatMap_cons, if_pos (show (zc ad (.inr (.inl a))).category = 2 from rfl), List.length_append, this]
    show 2 + (zloc as).length = (zloc as).length + 1 + 1
    omega
theorem zloc_in {h : zH} : ∀ {as : List zV}, zNS h as → zNL h (zloc as)
  | [], _, i, v, hv => by cases i <;> cases hv
  | .inl a :: as, hs, i, v, hv => by
    cases i with
    | zero => cases hv; exact zNS_h hs
    | succ i => exact zloc_in (zNS_t hs) i v hv
  | .inr (.inr q) :: as, hs, i, v, hv => by
    cases i with
    | zero => cases hv; exact zNS_h hs
    | succ i => exact zloc_in (zNS_t hs) i v hv
  | .inr (.inl a) :: as, hs, i, v, hv => by
    cases i with
    | zero => cases hv; exact zNS_h hs
    | succ i =>
      cases i with
      | zero => cases hv
      | succ i => exact zloc_in (zNS_t hs) i v hv
theorem zpad_gd {n : Nat} {L : zL} {i : Nat} {v : zV} (h : (zpad n L).getD i none = some v) : L.getD i none = some v := by
  unfold zpad at h
  rw [List.getD_eq_getElem?_getD] at h ⊢
  by_cases e : i < L.length
  · rwa [List.getElem?_append_left e] at h
  · rw [List.getElem?_append_right (by omega), List.getElem?_replicate] at h
    split at h <;> cases h
/-- a method in order: its rows, its name, its answer's type -/
def zMok (md : Bool) (Ts : List Cond) (cl : List vw_C) (FT : Nat → List Nat) (FK : Nat → Nat → Nat × Nat × Int) (MT : Nat → zMD) (M : zMD) : Prop :=
  plainName M.1.cls = true ∧ M.2.2.2.1 = zrt M.2.2.2.2.1 ∧ ∀ q ∈ M.2.2.2.2.2.1, zRok md Ts cl FT FK MT M.1.cls M.2.2.2.2.1 M.2.1 q
/-- a method, its calls d deep at most -/
noncomputable def zrn (md : Bool) (FT : Nat → List Nat) (EL : Nat → Nat × Nat) (MT : Nat → zMD) : Nat → Nat → List zV → zH → zR
  | 0 => fun _ _ _ => none
  | d + 1 => fun y as h => zck (Nat.ble (zloc as).length (MT y).2.2.1) (zgo md FT EL (zrn md FT EL MT d) (MT y).2.2.2.2.2.1 (MT y).2.2.2.2.2.2 0 (zpad (MT y).2.2.1 (zloc as)) [] h)
theorem zrn_ext {md : Bool} {FT : Nat → List Nat} {EL : Nat → Nat × Nat} {MT : Nat → zMD} : ∀ d, zPe (zrn md FT EL MT d)
  | 0 => fun y as h res hz => by cases hz
  | d + 1 => fun y as h res hz => by
    obtain ⟨f, e⟩ := (zgo_iff (zrn_ext d) res).mp (zck_inv hz).2
    exact zev_ext (zrn_ext d) f _ _ _ _ _ e
theorem zrn_mono {md : Bool} {FT : Nat → List Nat} {EL : Nat → Nat × Nat} {MT : Nat → zMD} : ∀ d, zLe (zrn md FT EL MT d) (zrn md FT EL MT (d + 1))
  | 0 => fun y as h res hz => by cases hz
  | d + 1 => fun y as h res hz => by
    obtain ⟨hc, hz⟩ := zck_inv hz
    obtain ⟨f, e⟩ := (zgo_iff (zrn_ext d) res).mp hz
    show zck _ _ = _
    rw [hc]
    exact (zgo_iff (zrn_ext (d + 1)) res).mpr ⟨f, zev_mono (zrn_ext d) (zrn_mono d) f f (Nat.le_refl _) _ _ _ _ _ e⟩
theorem zrn_sound {l : Launch} {Ts : List Cond} {cl : List vw_C} {md : Bool} {FT : Nat → List Nat} {FK : Nat → Nat → Nat × Nat × Int} {EL : Nat → Nat × Nat} {SC : String} {MT : Nat → zMD} (hgd : ∀ w ∈ Ts, goodWord w = true) (hMT : ∀ y, zMok md Ts cl FT FK MT (MT y)) : ∀ d, zPs l Ts cl md FT FK EL SC MT d (zrn md FT EL MT d)
  | 0 => fun y as h res hz => by cases hz
  | d + 1 => by
    have ih := zrn_sound (l := l) (SC := SC) (EL := EL) hgd hMT d
    intro y as h res hz
    have hz0 := hz
    obtain ⟨h1, hz⟩ := zck_inv hz
    have h1 := Nat.le_of_ble_eq_true h1
    obtain ⟨F, hz⟩ := (zgo_iff (zrn_ext d) res).mp hz
    obtain ⟨m1, m2, m3⟩ := hMT y
    have hlen : (zpad (MT y).2.2.1 (zloc as)).length = (MT y).2.2.1 := by unfold zpad; rw [List.length_append, List.length_replicate]; omega
    have key : ∀ (p : Program) (e : Env) (s : State) (m : MethodId) (args : Array Value) (below : List Frame) (meth : Method) (c : Code) (D : va_G) (A : Nat → Prop) (n0 s0 : Nat) (ad0 : Nat → Nat) (cs : Nat → ClassId), p.tables.exec = Jvm.exec → c.code = (MT y).2.1 → va_K D cl (ztys cs SC) s → (∀ q, s.heap.size ≤ q → A q) → (∀ w ∈ Ts, w.before args s = true) → s.vm.findClass (MT y).1.cls = some m.cls → c.maxLocals = (MT y).2.2.1 → meth.locks = false → meth.sig.returnType = zrt (MT y).2.2.2.2.1 → zExt h res.2 ∧ zA p l e s m args below meth c D cl A n0 s0 ad0 md FT FK EL cs SC (MT y).2.2.2.2.1 d res 0 (zpad (MT y).2.2.1 (zloc as)) [] h :=
      fun p e s m args below meth c D A n0 s0 ad0 cs k1 k2 k3 k4 k5 k6 k7 k8 k9 => zev_sound k1 k2 k3 k4 k5 hgd k6 k7 k8 k9 ih _ m3 F 0 _ [] h res hlen hz
    refine ⟨zrn_ext (d + 1) y as h res hz0, fun hWF hNa D cs ad sz => ?_⟩
    refine Met.ofW (cc := (MT y).2.1) (maxL := (MT y).2.2.1) (ret := (MT y).2.2.2.1) m1 rfl ?_
    intro p e s m args below meth c s₁ B hml hv
    obtain ⟨rfl, hsz, hP, hK, hD0⟩ := hv
    have hts0 := atoms_spec (ws := .code (MT y).1 (MT y).2.1 (MT y).2.2.1 (MT y).2.2.2.1 :: Ts) B.pre
    have hts : ∀ w ∈ Ts, w.before (as.map (zc ad)).toArray s = true := fun w hw => hts0 w (List.mem_cons_of_mem _ hw)
    have hown : s.vm.findClass (MT y).1.cls = some m.cls := findClass_of_methodNamed B.named
    subst hsz
    have hD := hD0.self (sz := s.heap.size)
    have kk := (key p e s m (as.map (zc ad)).toArray below meth c D (va_A (zw FT cs ad h) s.heap.size) (zn h) (zsl h) ad cs B.exec B.bytes hK (fun q hq => Or.inr hq) hts hown hml B.notSynchronized (B.returns.trans m2)).2
    rw [lg_entry_eq]
    have hl : zLs ad ((lg_sl (as.map (zc ad)) ++ List.replicate ((MT y).2.2.1 - (lg_sl (as.map (zc ad))).length) Slot.unset).toArray) (zpad (MT y).2.2.1 (zloc as)) := zLs_of (lv_entry (as.map (zc ad)) (by rw [zloc_len]; exact h1)) hlen.symm (fun i v hv => by
      have := zloc_args ad as 0 i v (zpad_gd hv)
      rwa [Nat.zero_add] at this)
    have k3 := kk ad s.heap [] _ ⟨hWF, ⟨Nat.le_refl _, Nat.le_refl _, fun _ _ => rfl⟩, hP, hD, va_S.rf⟩ (fun i v hv => zloc_in hNa i v (zpad_gd hv)) (fun v hv => by cases hv) hl
    rw [Nat.sub_self, Nat.sub_self] at k3
    exact k3
