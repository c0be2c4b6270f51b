/-! owners and cells, in the reference -/
def WP (σ : zH) : Prop := WB σ ∧ (0 ≤ σ 8 1 ∧ σ 8 1 ≤ σ 0 1 ∧ 0 ≤ σ 8 12 ∧ σ 8 12 ≤ 16) ∧
  (∀ c, 0 ≤ c → c < 60 → 0 ≤ σ 1 c ∧ σ 1 c ≤ 999 ∧ 0 ≤ σ 4 c ∧ σ 4 c ≤ 99 ∧ 0 ≤ σ 5 c ∧ σ 5 c ≤ 9999 ∧ -1 ≤ σ 6 c ∧ σ 6 c < nO σ) ∧
  (∀ c, 0 ≤ c → c < 60 → -1 ≤ σ 7 c ∧ σ 7 c < nHo σ ∧ (σ 7 c ≠ -1 → σ 17 (σ 7 c) = c) ∧ (σ 7 c ≠ -1 → σ 5 c = 0)) ∧
  (∀ i, 0 ≤ i → i < nS σ → 1 ≤ σ 13 i ∧ σ 13 i ≤ 999 ∧ 0 ≤ σ 14 i ∧ σ 14 i ≤ 9999 ∧ 0 ≤ σ 15 i ∧ σ 15 i < nC σ ∧ ∀ j, 0 ≤ j → j < nS σ → σ 15 j = σ 15 i → j = i) ∧
  (∀ i, 0 ≤ i → i < nHo σ → 1 ≤ σ 16 i ∧ σ 16 i ≤ 999 ∧ 0 ≤ σ 17 i ∧ σ 17 i < nC σ ∧ σ 7 (σ 17 i) = i) ∧
  (∀ i, 0 ≤ i → i < nT σ → 0 ≤ σ 18 i ∧ σ 18 i ≤ 9999 ∧ 1 ≤ σ 19 i ∧ σ 19 i ≤ 99) ∧
  (∀ i, 0 ≤ i → i < nRo σ → 1 ≤ σ 20 i ∧ σ 20 i ≤ 9999)
theorem q_R_asked {d : Nat} {T : Int → Int} {n : Int} {s : zRd} {σ h : zH} (w : WB σ) (p : PR σ h) (r : RR T n s h) : zWp (m_R_askedOwner (d + 3) h) (fun v h' => (∃ y, v = .inl y ∧ (effK (toks T n) (onrS (toks T n) σ s).2 = 0 → y = (onrS (toks T n) σ s).1)) ∧ RR T n (onrS (toks T n) σ s).2 h' ∧ frE h h') := by
  rw [em_R_askedOwner]
  have en1 : kdS (toks T n) s ≠ 1 → (onrS (toks T n) σ s).2 = flS 1 (unf (tkI (toks T n) s.1)) s := by
    intro k1
    have e : nmS (toks T n) s = (-1, flS 1 (unf (tkI (toks T n) s.1)) s) := by unfold nmS; rw [if_neg k1]
    unfold onrS
    rw [e]
    show (if fndA σ 0 (-1) = -1 then flS 3 _ (flS 1 (unf (tkI (toks T n) s.1)) s) else flS 1 (unf (tkI (toks T n) s.1)) s) = _
    rw [flS_s (flS_z (by decide))]
    split <;> rfl
  by_cases hd : effK (toks T n) s = 0
  case neg =>
    have g := eff_g (A := toks T n) r.1.2.2.2.2
    have e := en1 (by rw [kd_d hd]; decide)
    rw [e]
    exact zWp_it (by rw [r.2.1.1]; omega) (zWp_s ⟨⟨_, rfl, fun z => absurd z (by rw [(flS_d hd).1]; exact hd)⟩, r.de hd, frE.rf h⟩)
  refine zWp_nt (by rw [r.2.1.1, hd]; decide) ?_
  have f := eff_0 hd
  have t3 := (r.2.2 hd).2.2 f.2
  have g90 : ∀ {x : Int} {s' : zRd} {h' : zH}, RR T n s' h' → frE h h' → (onrS (toks T n) σ s).2 = s' → (effK (toks T n) s' = 0 → x = (onrS (toks T n) σ s).1) → zWp (l_R_askedOwner_90 (d + 2) x h') (fun v h' => (∃ y, v = .inl y ∧ (effK (toks T n) (onrS (toks T n) σ s).2 = 0 → y = (onrS (toks T n) σ s).1)) ∧ RR T n (onrS (toks T n) σ s).2 h' ∧ frE h h') := by
    intro x s' h' r' f' e ex
    rw [el_R_askedOwner_90, r'.2.1.1, e]
    refine zWp_if (fun z => zWp_s ⟨⟨_, rfl, fun y => absurd y (by omega)⟩, r', f'⟩) (fun z => zWp_s ⟨⟨_, rfl, fun y => ex y⟩, r', f'⟩)
  have bad : kdS (toks T n) s ≠ 1 → zWp (zqv (m_R_blame (d + 2) 1 (h 403 4) h) fun h1 => (l_R_askedOwner_37 (d + 2) h1)) (fun v h' => (∃ y, v = .inl y ∧ (effK (toks T n) (onrS (toks T n) σ s).2 = 0 → y = (onrS (toks T n) σ s).1)) ∧ RR T n (onrS (toks T n) σ s).2 h' ∧ frE h h') := by
    intro k1
    have b := r.bl (k := 1) (p := unf (tkI (toks T n) s.1)) hd (by decide)
    have b8 := (flS_e (A := toks T n) (p := unf (tkI (toks T n) s.1)) hd (show (1 : Int) ≠ 0 by decide)).1
    rw [(r.at hd).1]
    refine zWp_qv q_R_blame ?_
    have e8 : blH 1 (unf (tkI (toks T n) s.1)) h 403 8 = 1 := by rw [b.1.2.1.1, b8]
    rw [el_R_askedOwner_37, e8]
    refine zWp_it (by decide) ?_
    rw [el_R_askedOwner_57, e8]
    exact zWp_nt (by decide) (zWp_nt (by decide) (g90 b.1 b.2 (en1 k1) (fun y => absurd y (by rw [b8]; decide))))
  by_cases c1 : h 403 3 = 1
  case neg => exact zWp_nt c1 (bad (fun z => c1 (by rw [t3.1, rsg_1]; rw [kd_a hd] at z; exact Or.inl z)))
  refine zWp_it c1 ?_
  have kk : (tkI (toks T n) s.1).1 = 1 ∨ (tkI (toks T n) s.1).1 = 2 := by rw [t3.1, rsg_1] at c1; exact c1
  have tw := tok_w r.1.2.2.2.1 kk
  have e7 := (t3.2.2.2.2 kk).1
  rw [e7]
  refine zWp_qi (q_R_isOwn8 tw.1) ?_
  by_cases k2 : (tkI (toks T n) s.1).1 = 2
  · rw [if_neg (tw.2.2 k2).1]
    exact zWp_nt (by decide) (bad (by rw [kd_a hd, k2]; decide))
  have k1 : (tkI (toks T n) s.1).1 = 1 := by rcases kk with z | z; exact z; exact absurd z k2
  have tv := tw.2.1 k1
  rw [if_pos tv.1]
  refine zWp_it rfl ?_
  have nm : NmR (tkI (toks T n) s.1).2.2.1 (h 403 7) := ⟨_, tw.1, tv.2, e7⟩
  have hl := (toks_ok (T := T) r.1.1).2.1 s.1 r.1.2.2.2.1 (by rw [k1]; decide)
  have en : nmS (toks T n) s = ((tkI (toks T n) s.1).2.2.1, advS s) := by unfold nmS; rw [if_pos (by rw [kd_a hd]; exact k1)]
  have eo : onrS (toks T n) σ s = (fndA σ 0 (tkI (toks T n) s.1).2.2.1, if fndA σ 0 (tkI (toks T n) s.1).2.2.1 = -1 then flS 3 (tkI (toks T n) s.1).2.1 (advS s) else advS s) := by unfold onrS; rw [en]
  rw [el_R_askedOwner_37, r.2.1.1]
  refine zWp_nt (by rw [hd]; decide) (zWp_qi (q_R_named (d := d) w p ⟨by decide, by decide⟩ nm) ?_)
  rw [el_R_askedOwner_57, r.2.1.1]
  refine zWp_it hd ?_
  by_cases z : fndA σ 0 (tkI (toks T n) s.1).2.2.1 = -1
  · rw [if_pos z] at eo
    have b := r.bl (k := 3) (p := (tkI (toks T n) s.1).2.1) hd (by decide)
    have b8 := (flS_e (A := toks T n) (p := (tkI (toks T n) s.1).2.1) hd (show (3 : Int) ≠ 0 by decide)).1
    rw [(r.at hd).1, (r.at hd).2]
    refine zWp_it z (zWp_qv q_R_blame ?_)
    have e8 : blH 3 (tkI (toks T n) s.1).2.1 h 403 8 = 3 := by rw [b.1.2.1.1, b8]
    rw [e8]
    exact zWp_nt (by decide) (g90 (b.1.mv f.1 (by decide) hl) b.2 (by rw [eo]) (fun _ => by rw [eo]))
  · rw [if_neg z] at eo
    exact zWp_nt z (zWp_it hd (zWp_bv (q_R_adv (d := d) r hd (by rw [k1]; decide)) (fun _ h1 u => g90 u.1 u.2 (by rw [eo]) (fun _ => by rw [eo]))))
/-- a cell: 0 behind a fault -/
theorem q_R_celF {d : Nat} {T : Int → Int} {n : Int} {s : zRd} {σ h : zH} (w : WB σ) (p : PR σ h) (r : RR T n s h) {lx ly : Int} (l : 0 ≤ lx ∧ 0 ≤ ly) : zWp (m_R_cellFrom (d + 4) lx ly h) (fun v h' => (∃ y, v = .inl y ∧ (effK (toks T n) (celS (toks T n) σ lx ly s).2 = 0 → y = (celS (toks T n) σ lx ly s).1) ∧ (effK (toks T n) (celS (toks T n) σ lx ly s).2 ≠ 0 → y = 0)) ∧ RR T n (celS (toks T n) σ lx ly s).2 h' ∧ frE h h') := by
  have b := p.b
  have w1 := w.1
  have ce := cel_ok (A := toks T n) (s := s) w l
  rw [em_R_cellFrom, p.1.2.1, w32_i (x := σ 0 0 - 1) (by omega)]
  refine zWp_it b (zWp_bi (P := fun x h' => ((nbS (toks T n) lx (σ 0 0 - 1) s).2.2.1 = 0 → x = (nbS (toks T n) lx (σ 0 0 - 1) s).1) ∧ RR T n (nbS (toks T n) lx (σ 0 0 - 1) s).2 h' ∧ frE h h') (zWp_m (q_R_number (d := d) r) (fun v h' u => by obtain ⟨⟨y, e, ey⟩, u2⟩ := u; exact ⟨y, e, ey, u2⟩)) (fun x h1 u => ?_))
  have p1 := p.fr u.2.2
  have b1 := p1.b
  rw [p1.1.2.2, w32_i (x := σ 0 1 - 1) (by omega)]
  refine zWp_it b1 (zWp_bi (P := fun x h' => ((celS (toks T n) σ lx ly s).2.2.1 = 0 → x = (nbS (toks T n) ly (σ 0 1 - 1) (nbS (toks T n) lx (σ 0 0 - 1) s).2).1) ∧ RR T n (celS (toks T n) σ lx ly s).2 h' ∧ frE h1 h') (zWp_m (q_R_number (d := d) u.2.1) (fun v h' u => by obtain ⟨⟨y, e, ey⟩, u2⟩ := u; exact ⟨y, e, ey, u2⟩)) (fun y h2 t => ?_))
  have p2 := p1.fr t.2.2
  have b2 := p2.b
  have g := eff_g (A := toks T n) t.2.1.1.2.2.2.2
  rw [t.2.1.2.1.1, p2.1.2.1]
  by_cases z : effK (toks T n) (celS (toks T n) σ lx ly s).2 = 0
  · have z0 := (eff_0 z).1
    have zz : (nbS (toks T n) ly (σ 0 1 - 1) (nbS (toks T n) lx (σ 0 0 - 1) s).2).2.2.1 = 0 := z0
    obtain ⟨_, x', y', x1, x2, y1, y2, e, p1', p2', p3'⟩ := ce z0
    have e1 : (nbS (toks T n) ly (σ 0 1 - 1) (nbS (toks T n) lx (σ 0 0 - 1) s).2).1 * σ 0 0 + (nbS (toks T n) lx (σ 0 0 - 1) s).1 = y' * σ 0 0 + x' := by
      have := congrArg Prod.fst e
      unfold celS at this
      rw [if_pos zz] at this
      exact this
    have q1 := (nb_ok (nb_ok zz).1)
    have e2 : (nbS (toks T n) lx (σ 0 0 - 1) s).1 = (tkI (toks T n) s.1).2.2.1 := by rw [q1.2.2.2.2]
    have b1' : 0 ≤ (nbS (toks T n) lx (σ 0 0 - 1) s).1 ∧ (nbS (toks T n) lx (σ 0 0 - 1) s).1 ≤ 10 := by rw [e2]; omega
    rw [t.1 z0, u.1 (nb_ok zz).1]
    have ew : w32 (w32 ((nbS (toks T n) ly (σ 0 1 - 1) (nbS (toks T n) lx (σ 0 0 - 1) s).2).1 * σ 0 0) + (nbS (toks T n) lx (σ 0 0 - 1) s).1) = y' * σ 0 0 + x' := by
      rw [w32_i (x := (nbS (toks T n) ly (σ 0 1 - 1) (nbS (toks T n) lx (σ 0 0 - 1) s).2).1 * σ 0 0) (by omega), w32_i (by omega), e1]
    rw [ew]
    exact zWp_nt (by rw [z]; decide) (zWp_it b2 (zWp_s ⟨⟨_, rfl, fun _ => by rw [e], fun q => absurd z q⟩, t.2.1, u.2.2.t t.2.2⟩))
  · exact zWp_it (by omega) (zWp_s ⟨⟨_, rfl, fun q => absurd q z, fun _ => rfl⟩, t.2.1, u.2.2.t t.2.2⟩)
theorem q_R_tk43 {d : Nat} {σ h : zH} (w : WB σ) (p : PR σ h) {c : Int} (hc : 0 ≤ c ∧ c < 60) (pos : 0 ≤ σ 5 c) : ∀ (n : Nat) {i : Int}, 0 ≤ i → i + n = nHo σ → l_R_isTaken_43 d c i h = some (.inl (if zfs (fun i => decide (σ 17 i = c)) n i = -1 ∧ σ 5 c = 0 then 0 else 1), h)
  | 0, i, h0, hn => by
    have b := p.b
    have e5 := p.2.1.2.2.1 c hc.1 hc.2
    rw [el_R_isTaken_43, zit_t b, p.2.2.1.2.2.2.2.1, zit_f (by omega), ixw (by omega) (by omega), zit_t (by omega), e5]
    by_cases y : σ 5 c = 0
    · rw [zit_f (by omega), if_pos ⟨rfl, y⟩]
    · rw [zit_t (by omega), if_neg (fun u => y u.2)]
  | n + 1, i, h0, hn => by
    have b := p.b
    have w2 := w.2
    have e := (p.2.2.2.2.2.1 i h0 (by omega)).2.2
    rw [el_R_isTaken_43, zit_t b, p.2.2.1.2.2.2.2.1, zit_t (by omega), ixw (by omega) (by omega), zit_t (by omega), e, w32_i (x := i + 1) (by omega)]
    by_cases z : σ 17 i = c
    · rw [zit_t z, zfs_t (f := fun i => decide (σ 17 i = c)) (decide_eq_true z), if_neg (fun u => by omega)]
    · rw [zit_f z, zfs_f (f := fun i => decide (σ 17 i = c)) (decide_eq_false z)]
      exact q_R_tk43 w p hc pos n (by omega) (by omega)
theorem q_R_tk2 {d : Nat} {σ h : zH} (w : WB σ) (p : PR σ h) {c : Int} (hc : 0 ≤ c ∧ c < 60) (pos : 0 ≤ σ 5 c) : ∀ (n : Nat) {i : Int}, 0 ≤ i → i + n = nS σ → l_R_isTaken_2 d c i h = some (.inl (if zfs (fun i => decide (σ 15 i = c)) n i = -1 ∧ zfs (fun i => decide (σ 17 i = c)) (nHo σ).toNat 0 = -1 ∧ σ 5 c = 0 then 0 else 1), h)
  | 0, i, h0, hn => by
    have b := p.b
    have w2 := w.2
    rw [el_R_isTaken_2, zit_t b, p.2.2.1.2.2.2.1, zit_f (by omega), q_R_tk43 w p hc pos (nHo σ).toNat (by decide) (by omega)]
    by_cases y : zfs (fun i => decide (σ 17 i = c)) (nHo σ).toNat 0 = -1 ∧ σ 5 c = 0
    · rw [if_pos y, if_pos ⟨rfl, y⟩]
    · rw [if_neg y, if_neg (fun u => y u.2)]
  | n + 1, i, h0, hn => by
    have b := p.b
    have w2 := w.2
    have e := (p.2.2.2.2.1 i h0 (by omega)).2.2.2
    rw [el_R_isTaken_2, zit_t b, p.2.2.1.2.2.2.1, zit_t (by omega), ixw (by omega) (by omega), zit_t (by omega), e, w32_i (x := i + 1) (by omega)]
    by_cases z : σ 15 i = c
    · rw [zit_t z, zfs_t (f := fun i => decide (σ 15 i = c)) (decide_eq_true z), if_neg (fun u => by omega)]
    · rw [zit_f z, zfs_f (f := fun i => decide (σ 15 i = c)) (decide_eq_false z)]
      exact q_R_tk2 w p hc pos n (by omega) (by omega)
theorem q_R_taken {d : Nat} {σ h : zH} (w : WP σ) (p : PR σ h) {c : Int} (hc : 0 ≤ c ∧ c < 60) : m_R_isTaken (d + 1) c h = some (.inl (if freA σ c = true then 0 else 1), h) := by
  have w2 := w.1.2
  have wc := w.2.2.1 c hc.1 hc.2
  have wh := w.2.2.2.1 c hc.1 hc.2
  rw [em_R_isTaken, q_R_tk2 w.1 p hc wc.2.2.2.2.1 (nS σ).toNat (by decide) (by omega)]
  have eq : zfs (fun i => decide (σ 17 i = c)) (nHo σ).toNat 0 = -1 ↔ σ 7 c = -1 := by
    rcases zfs_spec (fun i => decide (σ 17 i = c)) (nHo σ).toNat 0 with z | z
    · refine ⟨fun _ => ?_, fun _ => z.1⟩
      by_cases y : σ 7 c = -1
      · exact y
      · have := of_decide_eq_false (z.2 (σ 7 c) (by omega) (by omega))
        exact absurd (wh.2.2.1 y) this
    · refine ⟨fun y => by omega, fun y => ?_⟩
      have e := of_decide_eq_true z.2.2.1
      have := (w.2.2.2.2.2.1 (zfs (fun i => decide (σ 17 i = c)) (nHo σ).toNat 0) z.1 (by omega)).2.2.2.2
      rw [e] at this
      omega
  unfold freA
  by_cases z : zfs (fun i => decide (σ 15 i = c)) (nS σ).toNat 0 = -1 ∧ σ 7 c = -1 ∧ σ 5 c = 0
  · rw [if_pos (c := zfs (fun i => decide (σ 15 i = c)) (nS σ).toNat 0 = -1 ∧ zfs (fun i => decide (σ 17 i = c)) (nHo σ).toNat 0 = -1 ∧ σ 5 c = 0) ⟨z.1, eq.2 z.2.1, z.2.2⟩, decide_eq_true z]; rfl
  · rw [if_neg (c := zfs (fun i => decide (σ 15 i = c)) (nS σ).toNat 0 = -1 ∧ zfs (fun i => decide (σ 17 i = c)) (nHo σ).toNat 0 = -1 ∧ σ 5 c = 0) (fun u => z ⟨u.1, eq.1 u.2.1, u.2.2⟩), decide_eq_false z]; rfl
