/-! what makes nothing leaves the cells below zero as they are, and answers by its kind -/
def zNg (h h1 : zH) : Prop := ∀ a : Int, a < 0 → h1 a = h a
theorem zNg.rf (h : zH) : zNg h h := fun _ _ => rfl
theorem zNg.tr {a b c : zH} (h1 : zNg a b) (h2 : zNg b c) : zNg a c := fun x hx => (h2 x hx).trans (h1 x hx)
theorem zNg_set {h : zH} {r i v : Int} (h0 : 0 ≤ r) : zNg h (zset h r i v) := fun a ha => zset_neg h0 ha
theorem zNg_cpy {h : zH} {d dp r sp n : Int} (h0 : 0 ≤ d) : zNg h (zcpy h d dp r sp n) := fun a ha => by unfold zcpy; rw [if_neg (by omega)]
def zPn (Φ : Nat → List zV → zH → zR) : Prop := ∀ y as h res, Φ y as h = some res → zNg h res.2
def zTn (lr : Bool) (h : zH) (kf kj : zC) (x : zR) : Prop := ∀ res, x = some res → (∃ pc L S h1, zNg h h1 ∧ kf pc L S h1 = some res) ∨ (∃ pc L S h1, zNg h h1 ∧ kj pc L S h1 = some res) ∨ (zNg h res.2 ∧ (lr = false → ∃ a, res.1 = .inl a))
theorem zTn_kf {lr : Bool} {h : zH} {kf kj : zC} {pc : Nat} {L : zL} {S : List zV} {h1 : zH} (he : zNg h h1) : zTn lr h kf kj (kf pc L S h1) := fun _ hz => Or.inl ⟨pc, L, S, h1, he, hz⟩
theorem zTn_kj {lr : Bool} {h : zH} {kf kj : zC} {pc : Nat} {L : zL} {S : List zV} {h1 : zH} (he : zNg h h1) : zTn lr h kf kj (kj pc L S h1) := fun _ hz => Or.inr (Or.inl ⟨pc, L, S, h1, he, hz⟩)
theorem zTn_none {lr : Bool} {h : zH} {kf kj : zC} : zTn lr h kf kj none := fun _ hz => by cases hz
theorem zTn_some {lr : Bool} {h : zH} {kf kj : zC} {a : Int} : zTn lr h kf kj (some (.inl a, h)) := fun res hz => by cases hz; exact Or.inr (Or.inr ⟨zNg.rf h, fun _ => ⟨a, rfl⟩⟩)
theorem zTn_long {lr : Bool} {h : zH} {kf kj : zC} (hl : lr = true) {v : zV} : zTn lr h kf kj (some (v, h)) := fun res hz => by cases hz; exact Or.inr (Or.inr ⟨zNg.rf h, fun q => by rw [hl] at q; cases q⟩)
theorem zTn_zpi {lr : Bool} {h : zH} {kf kj : zC} {S : List zV} {F : Int → List zV → zR} (k : ∀ a S1, zTn lr h kf kj (F a S1)) : zTn lr h kf kj (zpi S F) := fun res hz => by
  obtain ⟨x, S1, rfl, hzz⟩ := zpi_inv hz
  exact k x S1 res hzz
theorem zTn_zpl {lr : Bool} {h : zH} {kf kj : zC} {S : List zV} {F : Int → List zV → zR} (k : ∀ a S1, zTn lr h kf kj (F a S1)) : zTn lr h kf kj (zpl S F) := fun res hz => by
  obtain ⟨x, S1, rfl, hzz⟩ := zpl_inv hz
  exact k x S1 res hzz
theorem zTn_zpr {lr : Bool} {h : zH} {kf kj : zC} {S : List zV} {F : Int → Nat → Nat → List zV → zR} (k : ∀ r k w S1, zTn lr h kf kj (F r k w S1)) : zTn lr h kf kj (zpr S F) := fun res hz => by
  obtain ⟨r, kk, w, S1, rfl, hzz⟩ := zpr_inv hz
  exact k r kk w S1 res hzz
theorem zTn_zgi {lr : Bool} {h : zH} {kf kj : zC} {L : zL} {n : Nat} {F : Int → zR} (k : ∀ a, zTn lr h kf kj (F a)) : zTn lr h kf kj (zgi L n F) := fun res hz => by
  obtain ⟨x, ha, hzz⟩ := zgi_inv hz
  exact k x res hzz
theorem zTn_zgl {lr : Bool} {h : zH} {kf kj : zC} {L : zL} {n : Nat} {F : Int → zR} (k : ∀ a, zTn lr h kf kj (F a)) : zTn lr h kf kj (zgl L n F) := fun res hz => by
  obtain ⟨x, ha, hzz⟩ := zgl_inv hz
  exact k x res hzz
theorem zTn_zgr {lr : Bool} {h : zH} {kf kj : zC} {L : zL} {n : Nat} {F : Int → Nat → Nat → zR} (k : ∀ r k w, zTn lr h kf kj (F r k w)) : zTn lr h kf kj (zgr L n F) := fun res hz => by
  obtain ⟨r, kk, w, ha, hzz⟩ := zgr_inv hz
  exact k r kk w res hzz
theorem zTn_zck {lr : Bool} {h : zH} {kf kj : zC} {b : Bool} {F : zR} (k : b = true → zTn lr h kf kj F) : zTn lr h kf kj (zck b F) := fun res hz => by
  obtain ⟨hb, hzz⟩ := zck_inv hz
  exact k hb res hzz
theorem zTn_zpo {lr : Bool} {h : zH} {kf kj : zC} {r : Int} {F : zR} (k : 0 ≤ r → zTn lr h kf kj F) : zTn lr h kf kj (zpo r F) := fun res hz => by
  obtain ⟨hb, hzz⟩ := zpo_inv hz
  exact k hb res hzz
theorem zTn_zdz {lr : Bool} {h : zH} {kf kj : zC} {r : Int} {F : zR} (k : zTn lr h kf kj F) : zTn lr h kf kj (zdz r F) := fun res hz => by
  obtain ⟨hb, hzz⟩ := zdz_inv hz
  exact k res hzz
theorem zTn_zbo {lr : Bool} {h : zH} {kf kj : zC} {r : Int} {F : zR} (k : zTn lr h kf kj F) : zTn lr h kf kj (zbo r F) := fun res hz => by
  obtain ⟨hb, hzz⟩ := zbo_inv hz
  exact k res hzz
theorem zTn_zit {lr : Bool} {h : zH} {kf kj : zC} {cc : Prop} {d : Decidable cc} {F : zR} (k : cc → zTn lr h kf kj F) : zTn lr h kf kj (if cc then F else none) := fun res hz => by
  obtain ⟨hb, hzz⟩ := zit_inv hz
  exact k hb res hzz
theorem zTn_zqi {lr : Bool} {h : zH} {kf kj : zC} {Φ : Nat → List zV → zH → zR} (hΦ : zPn Φ) {y : Nat} {as : List zV} {F : Int → zH → zR} (k : ∀ x h2, zNg h h2 → zTn lr h kf kj (F x h2)) : zTn lr h kf kj (zqi (Φ y as h) F) := fun res hz => by
  obtain ⟨x, h2, hq, hzz⟩ := zqi_inv hz
  exact k x h2 (hΦ _ _ _ _ hq) res hzz
theorem zTn_zql {lr : Bool} {h : zH} {kf kj : zC} {Φ : Nat → List zV → zH → zR} (hΦ : zPn Φ) {y : Nat} {as : List zV} {F : Int → zH → zR} (k : ∀ x h2, zNg h h2 → zTn lr h kf kj (F x h2)) : zTn lr h kf kj (zql (Φ y as h) F) := fun res hz => by
  obtain ⟨x, h2, hq, hzz⟩ := zql_inv hz
  exact k x h2 (hΦ _ _ _ _ hq) res hzz
theorem zTn_zqv {lr : Bool} {h : zH} {kf kj : zC} {Φ : Nat → List zV → zH → zR} (hΦ : zPn Φ) {y : Nat} {as : List zV} {F : zH → zR} (k : ∀ h2, zNg h h2 → zTn lr h kf kj (F h2)) : zTn lr h kf kj (zqv (Φ y as h) F) := fun res hz => by
  obtain ⟨x, h2, hq, hzz⟩ := zqv_inv hz
  exact k h2 (hΦ _ _ _ _ hq) res hzz
theorem zTn_ite {lr : Bool} {h : zH} {kf kj : zC} {cc : Prop} {d : Decidable cc} {x y : zR} (k1 : zTn lr h kf kj x) (k2 : zTn lr h kf kj y) : zTn lr h kf kj (if cc then x else y) := by
  by_cases q : cc
  · rw [if_pos q]; exact k1
  · rw [if_neg q]; exact k2
theorem zTn_zif {lr : Bool} {h : zH} {kf kj : zC} {cn : ClassFile.Cond} {a b : Int} {x y : zR} (k1 : zTn lr h kf kj x) (k2 : zTn lr h kf kj y) : zTn lr h kf kj (zif cn a b x y) := by
  cases cn
  · exact zTn_ite k1 k2
  · exact zTn_ite k2 k1
  · exact zTn_ite k1 k2
  · exact zTn_ite k2 k1
  · exact zTn_ite k1 k2
  · exact zTn_ite k2 k1
theorem zTn_zsw {lr : Bool} {h : zH} {kf kj : zC} {L : zL} {S : List zV} {x d : Int} : ∀ ts : List Int, zTn lr h kf kj (zsw (fun t => kj t L S h) x d ts)
  | [] => zTn_kj (zNg.rf h)
  | [k] => zTn_kj (zNg.rf h)
  | k :: t :: r => by
    simp only [zsw]
    exact zTn_ite (zTn_kj (zNg.rf h)) (zTn_zsw r)
set_option maxHeartbeats 2000000 in
theorem zins_tn {h : zH} {Φ : Nat → List zV → zH → zR} {kf kj : zC} (hΦ : zPn Φ) (lr : Bool) (FT : Nat → List Nat) (EL : Nat → Nat × Nat) (pc : Nat) (ins : Instr) (hlr : ins = .lreturn → lr = true) (ax : List Int) (L : zL) (S : List zV) : zTn lr h kf kj (zins true FT EL Φ kf kj pc ins ax L S h) := by
  cases ins
  case getfield idx =>
    rcases ax with _ | ⟨ci, _ | ⟨j, _ | ⟨ty, _ | ⟨kd, _ | ⟨len, _ | ⟨off, ax⟩⟩⟩⟩⟩⟩ <;> simp only [zins]
    all_goals refine zTn_zpr fun r k w S1 => ?_
    any_goals exact zTn_none
    refine zTn_zck fun _ => zTn_zpo fun _ => ?_
    generalize ty.toNat = t
    rcases t with _ | _ | _ | _ | _ | t <;> exact zTn_kf (zNg.rf h)
  case putfield idx =>
    rcases ax with _ | ⟨ci, _ | ⟨j, _ | ⟨ty, _ | ⟨kd, _ | ⟨len, ax⟩⟩⟩⟩⟩ <;> simp only [zins]
    any_goals exact zTn_none
    generalize ty.toNat = t
    rcases t with _ | _ | _ | _ | _ | t
    · exact zTn_zpi fun v S => zTn_zpr fun r k w S => zTn_zck fun _ => zTn_zpo fun h0 => zTn_kf (zNg_set h0)
    · exact zTn_zpl fun v S => zTn_zpr fun r k w S => zTn_zck fun _ => zTn_zpo fun h0 => zTn_kf (zNg_set h0)
    · exact zTn_zpi fun v S => zTn_zpr fun r k w S => zTn_zck fun _ => zTn_zpo fun h0 => zTn_zbo (zTn_kf (zNg_set h0))
    · exact zTn_zpr fun v k w S => zTn_zpr fun r k w S => zTn_zck fun _ => zTn_zpo fun h0 => zTn_kf (zNg_set h0)
    · exact zTn_zck fun _ => zTn_zpr fun v k w S => zTn_zpr fun r k w S => zTn_zck fun _ => zTn_zpo fun h0 => zTn_kf (zNg_set h0)
    · exact zTn_none
  case invokevirtual idx =>
    rcases ax with _ | ⟨y, _ | ⟨n, _ | ⟨rk, _ | ⟨ci, ax⟩⟩⟩⟩ <;> simp only [zins]
    any_goals exact zTn_none
    rcases ztake n.toNat [] S with _ | ⟨_ | ⟨a | a | ⟨r, k, w⟩, as⟩, S1⟩
    any_goals exact zTn_none
    refine zTn_zck fun _ => zTn_zpo fun _ => ?_
    generalize rk.toNat = t
    rcases t with _ | _ | _ | t
    · exact zTn_zqi hΦ fun x h2 he => zTn_kf he
    · exact zTn_zql hΦ fun x h2 he => zTn_kf he
    · exact zTn_zqv hΦ fun h2 he => zTn_kf he
    · exact zTn_zqi hΦ fun x h2 he => zTn_kf he
  case invokespecial idx =>
    rcases ax with _ | ⟨y, _ | ⟨n, ax⟩⟩ <;> simp only [zins]
    any_goals exact zTn_none
    rcases ztake n.toNat [] S with _ | ⟨_ | ⟨a | a | ⟨r, k, w⟩, as⟩, S1⟩
    any_goals exact zTn_none
    refine zTn_zck fun _ => zTn_zpo fun _ => ?_
    generalize decide (y < 0) = t
    cases t
    · exact zTn_zqv hΦ fun h2 he => zTn_kf he
    · exact zTn_kf (zNg.rf h)
  case invokestatic idx =>
    rcases ax with _ | ⟨y, _ | ⟨n, _ | ⟨rk, ax⟩⟩⟩ <;> simp only [zins]
    any_goals exact zTn_none
    generalize decide (y = -2) = t
    cases t
    · rcases ztake n.toNat [] S with _ | ⟨as, S1⟩
      · exact zTn_none
      refine zTn_zck fun _ => ?_
      generalize rk.toNat = t
      rcases t with _ | _ | _ | t
      · exact zTn_zqi hΦ fun x h2 he => zTn_kf he
      · exact zTn_zql hΦ fun x h2 he => zTn_kf he
      · exact zTn_zqv hΦ fun h2 he => zTn_kf he
      · exact zTn_zqi hΦ fun x h2 he => zTn_kf he
    · exact zTn_zpi fun n S => zTn_zpi fun dp S => zTn_zpr fun d kd wd S => zTn_zpi fun sp S => zTn_zpr fun r k w S => zTn_zck fun _ => zTn_zpo fun _ => zTn_zpo fun h0 => zTn_zit fun _ => zTn_kf (zNg_cpy h0)
  case ireturn =>
    simp only [zins]
    rcases S with _ | ⟨a | a | a, _ | ⟨b, S⟩⟩
    any_goals exact zTn_none
    generalize (ax.getD 0 0).toNat = t
    cases t
    · exact zTn_some
    · exact zTn_zbo zTn_some
  case lreturn =>
    simp only [zins]
    rcases S with _ | ⟨a | a | a, _ | ⟨b, S⟩⟩
    any_goals exact zTn_none
    exact zTn_long (hlr rfl)
  case return_ =>
    simp only [zins]
    rcases S with _ | ⟨b, S⟩
    · exact zTn_some
    · exact zTn_none
  case new idx => simp only [zins]; exact zTn_none
  case newarray t => simp only [zins]; exact zTn_none
  case anewarray t => simp only [zins]; exact zTn_none
  case dup =>
    simp only [zins]
    rcases S with _ | ⟨a | a | ⟨r, k, w⟩, S⟩
    any_goals exact zTn_none
    all_goals exact zTn_kf (zNg.rf h)
  case dup2 =>
    simp only [zins]
    rcases S with _ | ⟨a | a | ⟨r, k, w⟩, _ | ⟨b | b | ⟨r, k, w⟩, S⟩⟩
    any_goals exact zTn_none
    all_goals exact zTn_kf (zNg.rf h)
  case pop =>
    simp only [zins]
    rcases S with _ | ⟨a | a | ⟨r, k, w⟩, S⟩
    any_goals exact zTn_none
    all_goals exact zTn_kf (zNg.rf h)
  all_goals simp only [zins]
  any_goals exact zTn_none
  any_goals exact zTn_kf (zNg.rf h)
  any_goals exact zTn_kj (zNg.rf h)
  any_goals exact zTn_zpi fun a S => zTn_kf (zNg.rf h)
  any_goals exact zTn_zpl fun a S => zTn_kf (zNg.rf h)
  any_goals exact zTn_zpi fun a S => zTn_zpi fun b S => zTn_kf (zNg.rf h)
  any_goals exact zTn_zpl fun a S => zTn_zpl fun b S => zTn_kf (zNg.rf h)
  any_goals exact zTn_zpi fun a S => zTn_zpl fun b S => zTn_kf (zNg.rf h)
  any_goals exact zTn_zpi fun a S => zTn_zpi fun b S => zTn_zdz (zTn_kf (zNg.rf h))
  any_goals exact zTn_zpl fun a S => zTn_zpl fun b S => zTn_zdz (zTn_kf (zNg.rf h))
  any_goals exact zTn_zgi fun a => zTn_kf (zNg.rf h)
  any_goals exact zTn_zgl fun a => zTn_kf (zNg.rf h)
  any_goals exact zTn_zgr fun r k w => zTn_kf (zNg.rf h)
  any_goals exact zTn_zpi fun a S => zTn_zck fun _ => zTn_kf (zNg.rf h)
  any_goals exact zTn_zpl fun a S => zTn_zck fun _ => zTn_kf (zNg.rf h)
  any_goals exact zTn_zpr fun r k w S => zTn_zck fun _ => zTn_kf (zNg.rf h)
  any_goals exact zTn_zgi fun a => zTn_zck fun _ => zTn_kf (zNg.rf h)
  any_goals exact zTn_zpi fun a S => zTn_zif (zTn_kj (zNg.rf h)) (zTn_kf (zNg.rf h))
  any_goals exact zTn_zpi fun a S => zTn_zpi fun b S => zTn_zif (zTn_kj (zNg.rf h)) (zTn_kf (zNg.rf h))
  any_goals exact zTn_zpr fun r k w S => zTn_ite (zTn_kj (zNg.rf h)) (zTn_kf (zNg.rf h))
  any_goals exact zTn_zpr fun r k w S => zTn_ite (zTn_kf (zNg.rf h)) (zTn_kj (zNg.rf h))
  any_goals exact zTn_zpi fun a S => zTn_zsw _
  any_goals exact zTn_zpr fun r k w S => zTn_zck fun _ => zTn_zpo fun _ => zTn_kf (zNg.rf h)
  any_goals exact zTn_zpi fun i S => zTn_zpr fun r k w S => zTn_zck fun _ => zTn_zpo fun _ => zTn_zit fun _ => zTn_kf (zNg.rf h)
  any_goals exact zTn_zpi fun v S => zTn_zpi fun i S => zTn_zpr fun r k w S => zTn_zck fun _ => zTn_zpo fun h0 => zTn_zit fun _ => zTn_kf (zNg_set h0)
  any_goals exact zTn_zpl fun v S => zTn_zpi fun i S => zTn_zpr fun r k w S => zTn_zck fun _ => zTn_zpo fun h0 => zTn_zit fun _ => zTn_kf (zNg_set h0)
  any_goals exact zTn_zpi fun v S => zTn_zpi fun i S => zTn_zpr fun r k w S => zTn_zck fun _ => zTn_zpo fun h0 => zTn_zit fun _ => zTn_zbo (zTn_kf (zNg_set h0))
  any_goals exact zTn_zpr fun v k w S => zTn_zpi fun i S => zTn_zpr fun r k w S => zTn_zck fun _ => zTn_zpo fun h0 => zTn_zpo fun _ => zTn_zit fun _ => zTn_kf (zNg_set h0)
theorem zseg_tn {Φ : Nat → List zV → zH → zR} (hΦ : zPn Φ) (lr : Bool) {K : zC} : ∀ (rows : List zRow), (∀ q ∈ rows, q.2.2.1 = .lreturn → lr = true) → ∀ (pc : Nat) (L : zL) (S : List zV) (h : zH) (res : zV × zH), zseg true zFT zEL Φ K rows pc L S h = some res →
    (∃ pc1 L1 S1 h1, zNg h h1 ∧ K pc1 L1 S1 h1 = some res) ∨ (zNg h res.2 ∧ (lr = false → ∃ a, res.1 = .inl a))
  | [], _, pc, L, S, h, res, hz => by cases hz
  | q :: rows, hr, pc, L, S, h, res, hz => by
    have ih := zseg_tn hΦ lr (K := K) rows fun q hq => hr q (List.mem_cons_of_mem _ hq)
    rw [zseg_cons] at hz
    by_cases e1 : Nat.beq pc q.1 = true
    · rw [e1] at hz
      have sel : ∀ (b : Bool) (pc1 : Nat) (L1 : zL) (S1 : List zV) (h1 : zH), zNg h h1 → (match (generalizing := false) b with | true => K | false => zseg true zFT zEL Φ K rows) pc1 L1 S1 h1 = some res → (∃ pc1 L1 S1 h1, zNg h h1 ∧ K pc1 L1 S1 h1 = some res) ∨ (zNg h res.2 ∧ (lr = false → ∃ a, res.1 = .inl a)) := by
        intro b pc1 L1 S1 h1 hg hb
        cases b
        · rcases ih pc1 L1 S1 h1 res hb with ⟨a1, a2, a3, a4, a5, a6⟩ | ⟨a1, a2⟩
          · exact Or.inl ⟨a1, a2, a3, a4, hg.tr a5, a6⟩
          · exact Or.inr ⟨hg.tr a1, a2⟩
        · exact Or.inl ⟨pc1, L1, S1, h1, hg, hb⟩
      rcases zins_tn hΦ lr zFT zEL q.1 q.2.2.1 (hr q List.mem_cons_self) q.2.2.2.2.2 L S res hz with ⟨pc1, L1, S1, h1, g1, g2⟩ | ⟨pc1, L1, S1, h1, g1, g2⟩ | g
      · exact sel _ pc1 L1 S1 h1 g1 g2
      · exact sel _ pc1 L1 S1 h1 g1 g2
      · exact Or.inr g
    · have e2 : Nat.beq pc q.1 = false := by cases hq : Nat.beq pc q.1; rfl; exact absurd hq e1
      rw [e2] at hz
      exact ih pc L S h res hz
theorem zev_tn {Φ : Nat → List zV → zH → zR} (hΦ : zPn Φ) (lr : Bool) {rows : List zRow} {ct : List (Nat × List Bool)} (hr : ∀ q ∈ rows, q.2.2.1 = .lreturn → lr = true) : ∀ (f : Nat) (pc : Nat) (L : zL) (S : List zV) (h : zH) (res : zV × zH), zev true zFT zEL Φ rows ct f pc L S h = some res → zNg h res.2 ∧ (lr = false → ∃ a, res.1 = .inl a)
  | 0, _, _, _, _, _, hz => by cases hz
  | f + 1, pc, L, S, h, res, hz => by
    rcases zseg_tn hΦ lr rows hr pc L S h res hz with ⟨a1, a2, a3, a4, a5, a6⟩ | g
    · obtain ⟨g1, g2⟩ := zev_tn hΦ lr hr f a1 _ a3 a4 res a6
      exact ⟨a5.tr g1, g2⟩
    · exact g
theorem zF_pn : ∀ d, zPn (zF d)
  | 0 => fun y as h res hz => by cases hz
  | d + 1 => fun y as h res hz => by
    obtain ⟨f, e⟩ := (zgo_iff (zrn_ext d) res).mp (zck_inv hz).2
    exact (zev_tn (zF_pn d) true (fun _ _ _ => rfl) f _ _ _ _ _ e).1
theorem zF_int {d y : Nat} {as : List zV} {h : zH} {res : zV × zH} (hy : (zMT y).2.2.2.2.1 ≠ 1) (hz : zF d y as h = some res) : zNg h res.2 ∧ ∃ a, res.1 = .inl a := by
  cases d with
  | zero => cases hz
  | succ d =>
    obtain ⟨f, e⟩ := (zgo_iff (zrn_ext d) res).mp (zck_inv hz).2
    obtain ⟨g1, g2⟩ := zev_tn (zF_pn d) false (fun q hq e => by
      obtain ⟨-, -, r3⟩ := (mo_allN y).2.2 q hq
      rw [e] at r3
      exact absurd r3 hy) f _ _ _ _ _ e
    exact ⟨g1, g2 rfl⟩
