/-! numbers and words, in the reference -/
theorem q_R_isB {d : Nat} {x lo hi : Int} {h : zH} : m_R_is (d + 1) x lo hi h = some (.inl (if lo ≤ x ∧ x ≤ hi then 1 else 0), h) := by
  rw [em_R_is]
  by_cases c : x < lo
  · rw [zit_t c, if_neg (by omega)]
  · rw [zit_f c]
    by_cases c2 : hi < x
    · rw [zit_t c2, if_neg (by omega)]
    · rw [zit_f c2, if_pos (by omega)]
theorem RR.nb {T : Int → Int} {n : Int} {s : zRd} {h : zH} (r : RR T n s h) (hd : effK (toks T n) s = 0) : (h 403 3 = 2 ↔ (tkI (toks T n) s.1).1 = 3) ∧ ((tkI (toks T n) s.1).1 = 3 → h 403 6 = (tkI (toks T n) s.1).2.2.1) := by
  have f := eff_0 hd
  have t3 := (r.2.2 hd).2.2 f.2
  rw [t3.1]
  exact ⟨rsg_2 (tok_k r.1.2.2.2.1 f.2), fun z => t3.2.2.2.1 (Or.inl z)⟩
/-- the value counts only without a fault -/
theorem q_R_number {d : Nat} {T : Int → Int} {n lo hi : Int} {s : zRd} {h : zH} (r : RR T n s h) : zWp (m_R_number (d + 3) lo hi h) (fun v h' => (∃ y, v = .inl y ∧ ((nbS (toks T n) lo hi s).2.2.1 = 0 → y = (nbS (toks T n) lo hi s).1)) ∧ RR T n (nbS (toks T n) lo hi s).2 h' ∧ frE h h') := by
  rw [em_R_number]
  by_cases hd : effK (toks T n) s = 0
  case neg =>
    have g := eff_g (A := toks T n) r.1.2.2.2.2
    rw [nb_d hd]
    refine zWp_it (by rw [r.2.1.1]; omega) (zWp_s ⟨⟨0, rfl, fun z => ?_⟩, r.de hd, frE.rf h⟩)
    have e := (r.de hd).2.1.1.symm.trans r.2.1.1
    unfold effK at e hd
    by_cases c : s.2.1 = 0
    · have : (flS 1 (unf (tkI (toks T n) s.1)) s).2.1 = 1 := by unfold flS; rw [if_pos c]
      rw [this] at z
      exact absurd z (by decide)
    · have : (flS 1 (unf (tkI (toks T n) s.1)) s).2.1 = s.2.1 := by unfold flS; rw [if_neg c]
      rw [this] at z
      exact absurd z c
  refine zWp_nt (by rw [r.2.1.1, hd]; decide) ?_
  have f := eff_0 hd
  by_cases c1 : (tkI (toks T n) s.1).1 = 3
  · refine zWp_it ((r.nb hd).1.2 c1) ?_
    have e6 := (r.nb hd).2 c1
    rw [el_R_number_26, r.2.1.1]
    refine zWp_it hd (zWp_qi q_R_isB ?_)
    rw [e6]
    unfold nbS
    rw [if_pos (c := kdS (toks T n) s = 3) (by rw [kd_a hd]; exact c1)]
    by_cases c2 : lo ≤ (tkI (toks T n) s.1).2.2.1 ∧ (tkI (toks T n) s.1).2.2.1 ≤ hi
    · rw [if_pos c2, if_pos c2]
      refine zWp_nt (by decide) ?_
      rw [el_R_number_54, r.2.1.1, e6]
      exact zWp_it hd (zWp_bv (q_R_adv (d := d) r hd (by rw [c1]; decide)) (fun _ h1 u => zWp_s ⟨⟨_, rfl, fun _ => rfl⟩, u⟩))
    · rw [if_neg c2, if_neg c2]
      have b := r.bl (k := 4) (p := (tkI (toks T n) s.1).2.1) hd (by decide)
      refine zWp_it rfl (zWp_qv q_R_blame ?_)
      rw [(r.at hd).1, (r.at hd).2, el_R_number_54, b.1.2.1.1, (flS_e hd (by decide)).1]
      refine zWp_nt (by decide) (zWp_s ⟨⟨_, rfl, fun z => ?_⟩, b⟩)
      have : (flS 4 (tkI (toks T n) s.1).2.1 s).2.1 = 4 := by unfold flS; rw [if_pos f.1]
      exact absurd (this.symm.trans z) (by decide)
  · have b := r.bl (k := 1) (p := unf (tkI (toks T n) s.1)) hd (by decide)
    refine zWp_nt (fun z => c1 ((r.nb hd).1.1 z)) (zWp_qv q_R_blame ?_)
    rw [(r.at hd).1, el_R_number_26, b.1.2.1.1, (flS_e hd (by decide)).1]
    refine zWp_nt (by decide) ?_
    rw [el_R_number_54, b.1.2.1.1, (flS_e hd (by decide)).1]
    unfold nbS
    rw [if_neg (c := kdS (toks T n) s = 3) (by rw [kd_a hd]; exact c1)]
    refine zWp_nt (by decide) (zWp_s ⟨⟨_, rfl, fun z => ?_⟩, b⟩)
    have : (flS 1 (unf (tkI (toks T n) s.1)) s).2.1 = 1 := by unfold flS; rw [if_pos f.1]
    exact absurd (this.symm.trans z) (by decide)
def ltOk (L : List Nat) : Prop := ∀ x ∈ L, 1 ≤ x ∧ x ≤ 26
theorem pk8_r : ∀ (m : Nat) (L M : List Nat), L.length = m → ltOk L → ltOk M → pk8 0 L = pk8 0 M → L = M := by
  intro m
  induction m with
  | zero =>
    intro L M hm hL hM e
    have eL : L = [] := List.eq_nil_of_length_eq_zero hm
    rw [eL] at e ⊢
    rcases List.eq_nil_or_concat M with z | ⟨M', y, z⟩
    · exact z.symm
    · rw [z, List.concat_eq_append, pk8_app] at e
      have e' : 0 = pk8 0 M' * 256 + (y + 96) := e
      omega
  | succ m ih =>
    intro L M hm hL hM e
    rcases List.eq_nil_or_concat L with z | ⟨L', x, z⟩
    · rw [z] at hm; cases hm
    rw [List.concat_eq_append] at z
    rcases List.eq_nil_or_concat M with y | ⟨M', y, w⟩
    · rw [z, y, pk8_app] at e
      have e' : pk8 0 L' * 256 + (x + 96) = 0 := e
      omega
    rw [List.concat_eq_append] at w
    rw [z, w, pk8_app, pk8_app] at e
    have hx := hL x (by rw [z]; exact List.mem_append_right _ (List.mem_singleton.2 rfl))
    have hy := hM y (by rw [w]; exact List.mem_append_right _ (List.mem_singleton.2 rfl))
    have e1 : x = y := by omega
    have e2 : L' = M' := ih L' M' (by rw [z, List.length_append] at hm; exact Nat.succ.inj hm) (fun u hu => hL u (by rw [z]; exact List.mem_append_left _ hu)) (fun u hu => hM u (by rw [w]; exact List.mem_append_left _ hu)) (by omega)
    rw [z, w, e1, e2]
theorem pk8_inj {L M : List Nat} (hL : ltOk L) (hM : ltOk M) (e : pk8 0 L = pk8 0 M) : L = M := pk8_r _ L M rfl hL hM e
theorem pk5_inj : ∀ (L M : List Nat) (k : Nat), ltOk L → ltOk M → k + L.length ≤ 6 → k + M.length ≤ 6 → pk5 k L = pk5 k M → L = M
  | [], [], _, _, _, _, _, _ => rfl
  | [], y :: M, k, _, hM, _, h2, e => by
    have hy := hM y (List.mem_cons_self ..)
    have e' : 0 = y * 32 ^ (5 - k) + pk5 (k + 1) M := e
    have : 0 < 32 ^ (5 - k) := Nat.pow_pos (by decide)
    have := Nat.mul_pos (show 0 < y by omega) this
    omega
  | x :: L, [], k, hL, _, h1, _, e => by
    have hx := hL x (List.mem_cons_self ..)
    have e' : x * 32 ^ (5 - k) + pk5 (k + 1) L = 0 := e
    have : 0 < 32 ^ (5 - k) := Nat.pow_pos (by decide)
    have := Nat.mul_pos (show 0 < x by omega) this
    omega
  | x :: L, y :: M, k, hL, hM, h1, h2, e => by
    rw [List.length_cons] at h1 h2
    rw [pk5, pk5] at e
    have hL' : ltOk L := fun u hu => hL u (List.mem_cons_of_mem _ hu)
    have hM' : ltOk M := fun u hu => hM u (List.mem_cons_of_mem _ hu)
    have b1 := pk5_lt L (k + 1) (fun u hu => by have := (hL' u hu).2; omega) (by omega)
    have b2 := pk5_lt M (k + 1) (fun u hu => by have := (hM' u hu).2; omega) (by omega)
    rw [show 6 - (k + 1) = 5 - k by omega] at b1 b2
    have p : 0 < 32 ^ (5 - k) := Nat.pow_pos (by decide)
    have d1 : (x * 32 ^ (5 - k) + pk5 (k + 1) L) / 32 ^ (5 - k) = x := by rw [Nat.add_comm, Nat.add_mul_div_right _ _ p, Nat.div_eq_of_lt b1, Nat.zero_add]
    have d2 : (y * 32 ^ (5 - k) + pk5 (k + 1) M) / 32 ^ (5 - k) = y := by rw [Nat.add_comm, Nat.add_mul_div_right _ _ p, Nat.div_eq_of_lt b2, Nat.zero_add]
    have exy : x = y := by rw [← d1, e, d2]
    rw [exy] at e ⊢
    rw [pk5_inj L M (k + 1) hL' hM' (by omega) (by omega) (by omega)]
/-- what a word is -/
theorem tkAt_w {T : Int → Int} {n a : Int} (h0 : 0 ≤ a ∧ a < n) (hk : (tkAt T n a).1 = 1 ∨ (tkAt T n a).1 = 2) : nmOk (tkAt T n a).2.2.2.2 ∧ ((tkAt T n a).1 = 1 → ownI (pk5 0 (tkAt T n a).2.2.2.2 : Nat) = -1 ∧ (tkAt T n a).2.2.1 = (pk5 0 (tkAt T n a).2.2.2.2 : Nat)) ∧ ((tkAt T n a).1 = 2 → ownI (pk5 0 (tkAt T n a).2.2.2.2 : Nat) ≠ -1 ∧ (tkAt T n a).2.2.1 = ownI (pk5 0 (tkAt T n a).2.2.2.2 : Nat)) := by
  unfold tkAt at hk ⊢
  by_cases c1 : cL (T a) = true
  · rw [if_pos c1] at hk ⊢
    by_cases c2 : adjT T a = true
    · rw [if_pos c2] at hk; exact absurd hk (show ¬ ((5 : Int) = 1 ∨ (5 : Int) = 2) by decide)
    rw [if_neg c2] at hk
    rw [if_neg c2, if_neg c2]
    by_cases c3 : 6 < rnE cL T n (n - a).toNat a - a
    · rw [if_pos c3] at hk; exact absurd hk (show ¬ ((5 : Int) = 1 ∨ (5 : Int) = 2) by decide)
    rw [if_neg c3, if_neg c3]
    have e1 := rn_b (p := cL) (T := T) (n := n) (n - (a + 1)).toNat (a + 1)
    have e2 := rn_go (n := n) h0.2 c1
    have ok : nmOk (ltS T (rnE cL T n (n - a).toNat a - a).toNat a) := ⟨by rw [ltS_len]; omega, by rw [ltS_len]; omega, ltS_31 _ _ (fun j j1 j2 => rn_in (p := cL) (T := T) (n := n) (n - a).toNat a j j1 (by omega))⟩
    by_cases c4 : ownI (pk5 0 (ltS T (rnE cL T n (n - a).toNat a - a).toNat a)) = -1
    · rw [if_pos c4, if_pos c4]
      exact ⟨ok, fun _ => ⟨c4, rfl⟩, fun z => absurd z (show ¬ (1 : Int) = 2 by decide)⟩
    · rw [if_neg c4, if_neg c4]
      exact ⟨ok, fun z => absurd z (show ¬ (2 : Int) = 1 by decide), fun _ => ⟨c4, rfl⟩⟩
  rw [if_neg c1] at hk
  by_cases c2 : cD (T a) = true
  · rw [if_pos c2] at hk
    have hk' : (if adjT T a = true then (5 : Int) else if 4 < rnE cD T n (n - a).toNat a - a then 5 else 3) = 1 ∨ (if adjT T a = true then (5 : Int) else if 4 < rnE cD T n (n - a).toNat a - a then 5 else 3) = 2 := hk
    split at hk'
    · exact absurd hk' (by decide)
    split at hk'
    · exact absurd hk' (by decide)
    · exact absurd hk' (by decide)
  · rw [if_neg c2] at hk
    exact absurd hk (show ¬ ((4 : Int) = 1 ∨ (4 : Int) = 2) by decide)
theorem tok_w {T : Int → Int} {n : Int} {i : Nat} (hi : i < (toks T n).length) (hk : (tkI (toks T n) i).1 = 1 ∨ (tkI (toks T n) i).1 = 2) : nmOk (tkI (toks T n) i).2.2.2.2 ∧ ((tkI (toks T n) i).1 = 1 → ownI (pk5 0 (tkI (toks T n) i).2.2.2.2 : Nat) = -1 ∧ (tkI (toks T n) i).2.2.1 = (pk5 0 (tkI (toks T n) i).2.2.2.2 : Nat)) ∧ ((tkI (toks T n) i).1 = 2 → ownI (pk5 0 (tkI (toks T n) i).2.2.2.2 : Nat) ≠ -1 ∧ (tkI (toks T n) i).2.2.1 = ownI (pk5 0 (tkI (toks T n) i).2.2.2.2 : Nat)) := by
  obtain ⟨b, b1, b2, e⟩ := toks_e hi (fun z => by omega)
  have := tkAt_w (T := T) (n := n) (a := b) ⟨b1, b2⟩
  rw [← e] at this
  exact this hk
theorem ownL_ok : ∀ i : Nat, i < 26 → (∀ x ∈ ownL.getD i [], 1 ≤ x ∧ x ≤ 26) ∧ (ownL.getD i []).length ≤ 6 := by decide
theorem ownW_d : ∀ i : Nat, i < 26 → ∀ j : Nat, j < 26 → ownW.getD i 0 = ownW.getD j 0 → i = j := by decide
theorem ownI_i {p : Int} {i : Nat} (hi : i < 26) (e : ownW.getD i 0 = p) : ownI p = (i : Int) := by
  refine zfs_is ⟨by omega, by omega⟩ (decide_eq_true (by rw [Int.toNat_natCast]; exact e)) (fun j j1 j2 => decide_eq_false (fun z => ?_))
  have := ownW_d j.toNat (by omega) i hi (z.trans e.symm)
  omega
theorem own_w {L : List Nat} (hL : nmOk L) {i : Nat} (hi : i < 26) : pk8 0 L = pk8 0 (ownL.getD i []) ↔ ownI (pk5 0 L : Nat) = (i : Int) := by
  have o := ownL_ok i hi
  constructor
  · intro z
    have e := pk8_inj (L := L) (M := ownL.getD i []) hL.2.2 o.1 z
    exact ownI_i hi (by rw [ownL_5 i hi, e])
  · intro z
    rcases zfs_spec (fun j => decide (ownW.getD j.toNat 0 = (pk5 0 L : Int))) 26 0 with y | y
    · have : ownI (pk5 0 L : Nat) = -1 := y.1
      omega
    · have e := of_decide_eq_true y.2.2.1
      have ez : zfs (fun j => decide (ownW.getD j.toNat 0 = (pk5 0 L : Int))) 26 0 = (i : Int) := z
      rw [ez, Int.toNat_natCast, ownL_5 i hi] at e
      have e' : pk5 0 (ownL.getD i []) = pk5 0 L := Int.ofNat.inj e
      rw [pk5_inj L (ownL.getD i []) 0 hL.2.2 o.1 (by have := hL.2.1; omega) (by omega) e'.symm]
theorem q_R_isWd {d : Nat} {x : Int} {h : zH} : m_R_isWord (d + 1) x h = some (.inl (if h 403 3 = 1 ∧ h 403 7 = x then 1 else 0), h) := by
  rw [em_R_isWord]
  by_cases c : h 403 3 = 1
  · rw [zit_t c]
    by_cases c2 : h 403 7 = x
    · rw [zit_t (by rw [zlc_0]; exact c2), if_pos ⟨c, c2⟩]
    · rw [zit_f (by rw [zlc_0]; exact c2), if_neg (fun z => c2 z.2)]
  · rw [zit_f c, if_neg (fun z => c z.1)]
theorem RR.wd {T : Int → Int} {n : Int} {s : zRd} {h : zH} (r : RR T n s h) (hd : effK (toks T n) s = 0) {i : Nat} (hi : i < 26) : (h 403 3 = 1 ∧ h 403 7 = (pk8 0 (ownL.getD i []) : Nat)) ↔ sgS (toks T n) 2 (i : Int) s = true := by
  have f := eff_0 hd
  have t3 := (r.2.2 hd).2.2 f.2
  unfold sgS
  rw [decide_eq_true_iff, kd_a hd, t3.1, rsg_1]
  constructor
  · intro z
    have w := tok_w r.1.2.2.2.1 z.1
    rw [(t3.2.2.2.2 z.1).1] at z
    have o := (own_w w.1 hi).1 (Int.ofNat.inj z.2)
    have k : (tkI (toks T n) s.1).1 = 2 := by
      rcases z.1 with y | y
      · have := (w.2.1 y).1
        omega
      · exact y
    exact ⟨k, by rw [(w.2.2 k).2, o]⟩
  · intro z
    have w := tok_w r.1.2.2.2.1 (Or.inr z.1)
    refine ⟨Or.inr z.1, ?_⟩
    rw [(t3.2.2.2.2 (Or.inr z.1)).1]
    exact congrArg Int.ofNat ((own_w w.1 hi).2 (by rw [← (w.2.2 z.1).2]; exact z.2))
theorem q_R_mustO {d : Nat} {T : Int → Int} {n x : Int} {s : zRd} {h : zH} (r : RR T n s h) {i : Nat} (hi : i < 26) (ex : x = (pk8 0 (ownL.getD i []) : Nat)) : zWp (m_R_mustW (d + 3) x h) (fun _ h' => RR T n (ndS (toks T n) 2 (i : Int) s) h' ∧ frE h h') := by
  rw [em_R_mustW]
  by_cases hd : effK (toks T n) s = 0
  case neg =>
    have g := eff_g (A := toks T n) r.1.2.2.2.2
    rw [nd_d (by decide) hd]
    exact zWp_it (by rw [r.2.1.1]; omega) (zWp_s ⟨r.de hd, frE.rf h⟩)
  refine zWp_nt (by rw [r.2.1.1, hd]; decide) (zWp_qi q_R_isWd ?_)
  rw [ex]
  unfold ndS
  by_cases c : h 403 3 = 1 ∧ h 403 7 = (pk8 0 (ownL.getD i []) : Nat)
  · have g := (r.wd hd hi).1 c
    have k : (tkI (toks T n) s.1).1 = 2 := by rw [← kd_a hd]; exact (of_decide_eq_true g).1
    rw [if_pos c, if_pos g]
    refine zWp_nt (by decide) ?_
    rw [el_R_mustW_25, r.2.1.1]
    exact zWp_it hd (zWp_bv (q_R_adv (d := d) r hd (by rw [k]; decide)) (fun _ h1 u => zWp_s u))
  · rw [if_neg c, if_neg (c := sgS (toks T n) 2 (i : Int) s = true) (fun z => c ((r.wd hd hi).2 z))]
    have b := r.bl (k := 1) (p := unf (tkI (toks T n) s.1)) hd (by decide)
    refine zWp_it rfl (zWp_qv q_R_blame ?_)
    rw [(r.at hd).1, el_R_mustW_25, b.1.2.1.1, (flS_e hd (by decide)).1]
    exact zWp_nt (by decide) (zWp_s b)
