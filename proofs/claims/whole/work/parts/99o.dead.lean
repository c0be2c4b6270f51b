/-! behind a fault nothing is read -/
def dS (A : List zTk) (s : zRd) : zRd := flS 1 (unf (tkI A s.1)) s
theorem dS_e {A : List zTk} {s : zRd} (hd : effK A s ≠ 0) : effK A (dS A s) ≠ 0 := by unfold dS; rw [(flS_d hd).1]; exact hd
theorem dS_2 {A : List zTk} {s : zRd} : dS A (dS A s) = dS A s := by
  have z : (dS A s).2.1 ≠ 0 := flS_z (by decide)
  exact flS_s z
theorem dS_z {A : List zTk} {s : zRd} : (dS A s).2.1 ≠ 0 := flS_z (by decide)
theorem d_nd {A : List zTk} {k x : Int} {s : zRd} (hk : k ≠ 5) (hd : effK A s ≠ 0) : ndS A k x s = dS A s := nd_d hk hd
theorem d_nb {A : List zTk} {lo hi : Int} {s : zRd} (hd : effK A s ≠ 0) : nbS A lo hi s = (-1, dS A s) := nb_d hd
theorem d_cl {A : List zTk} {σ : zH} {lx ly : Int} {s : zRd} (hd : effK A s ≠ 0) : celS A σ lx ly s = (-1, dS A s) := by
  unfold celS
  rw [d_nb hd, d_nb (s := (((-1 : Int), dS A s) : Int × zRd).2) (dS_e hd)]
  show ((if (dS A (dS A s)).2.1 = 0 then _ else -1), dS A (dS A s)) = _
  rw [dS_2, if_neg dS_z]
theorem d_nw {A : List zTk} {σ : zH} {s : zRd} (hd : effK A s ≠ 0) : newS A σ s = (-1, dS A s) := new_f (by rw [kd_d hd]; decide)
theorem d_on {A : List zTk} {σ : zH} {s : zRd} (hd : effK A s ≠ 0) : (onrS A σ s).2 = dS A s := by
  have e : nmS A s = (-1, dS A s) := by unfold nmS; rw [if_neg (by rw [kd_d hd]; decide)]; rfl
  unfold onrS
  rw [e]
  show (if fndA σ 0 (-1) = -1 then flS 3 _ (dS A s) else dS A s) = _
  rw [flS_s dS_z]
  split <;> rfl
/-- a free cell, the word before it taken -/
def frcS (A : List zTk) (σ : zH) (t : zRd) : Int × zRd :=
  if (celS A σ 0 0 t).1 = -1 then celS A σ 0 0 t else if freA σ (celS A σ 0 0 t).1 = true then celS A σ 0 0 t else (-1, flS 4 (tkI A ((celS A σ 0 0 t).2.1 - 1)).2.1 (celS A σ 0 0 t).2)
theorem fre_c {A : List zTk} {σ : zH} {s : zRd} : freS A σ s = frcS A σ (ndS A 2 3 s) := rfl
theorem d_fc {A : List zTk} {σ : zH} {s : zRd} (hd : effK A s ≠ 0) : frcS A σ s = (-1, dS A s) := by
  unfold frcS
  rw [d_cl hd]
  exact if_pos rfl
theorem d_fr {A : List zTk} {σ : zH} {s : zRd} (hd : effK A s ≠ 0) : freS A σ s = (-1, dS A s) := by
  rw [fre_c, d_nd (by decide) hd, d_fc (dS_e hd), dS_2]
theorem RR.ds {T : Int → Int} {n : Int} {s : zRd} {h : zH} (r : RR T n s h) (hd : effK (toks T n) s ≠ 0) : RR T n (dS (toks T n) s) h := r.de hd
theorem q_R_counts {d : Nat} {T : Int → Int} {n x : Int} {s : zRd} {h : zH} (r : RR T n s h) (hd : effK (toks T n) s = 0) (hk : (tkI (toks T n) s.1).1 ≠ 0) : zWp (m_R_counts (d + 3) x h) (fun v h' => ∃ a, v = .inl a ∧ a = (if effK (toks T n) (if x = 0 then advS s else flS 5 (tkI (toks T n) s.1).2.1 s) = 0 then 1 else 0) ∧ RR T n (if x = 0 then advS s else flS 5 (tkI (toks T n) s.1).2.1 s) h' ∧ frE h h') := by
  have g31 : ∀ {s' : zRd} {h' : zH}, RR T n s' h' → frE h h' → zWp (l_R_counts_31 (d + 2) h') (fun v h' => ∃ a, v = .inl a ∧ a = (if effK (toks T n) s' = 0 then 1 else 0) ∧ RR T n s' h' ∧ frE h h') := by
    intro s' h' r' f'
    rw [el_R_counts_31, r'.2.1.1]
    by_cases z : effK (toks T n) s' = 0
    · exact zWp_it z (zWp_s ⟨_, rfl, by rw [if_pos z], r', f'⟩)
    · exact zWp_nt z (zWp_s ⟨_, rfl, by rw [if_neg z], r', f'⟩)
  have h8 : h 403 8 = 0 := by rw [r.2.1.1, hd]
  rw [em_R_counts]
  refine zWp_it h8 ?_
  by_cases c : x = 0
  · rw [if_pos (c := x = 0) (t := advS s) c]
    exact zWp_it c (zWp_it h8 (zWp_bv (q_R_adv (d := d) r hd hk) (fun _ h1 u => g31 u.1 u.2)))
  · rw [if_neg (c := x = 0) (t := advS s) c, (r.at hd).1, (r.at hd).2]
    have b := r.bl (k := 5) (p := (tkI (toks T n) s.1).2.1) hd (by decide)
    have b8 := (flS_e (A := toks T n) (p := (tkI (toks T n) s.1).2.1) hd (show (5 : Int) ≠ 0 by decide)).1
    refine zWp_nt c (zWp_qv q_R_blame (zWp_nt (by rw [b.1.2.1.1, b8]; decide) (g31 b.1 b.2)))
/-- steps for statements in the reference -/
theorem k_nb {d : Nat} {T : Int → Int} {n lo hi : Int} {s : zRd} {σ h : zH} {f : Int → zH → zR} {Q : zV → zH → Prop} (p : PR σ h) (r : RR T n s h) (k : ∀ y h', ((nbS (toks T n) lo hi s).2.2.1 = 0 → y = (nbS (toks T n) lo hi s).1) → PR σ h' → RR T n (nbS (toks T n) lo hi s).2 h' → frE h h' → zWp (f y h') Q) : zWp (zqi (m_R_number (d + 3) lo hi h) f) Q :=
  zWp_bi (P := fun x h' => ((nbS (toks T n) lo hi s).2.2.1 = 0 → x = (nbS (toks T n) lo hi s).1) ∧ RR T n (nbS (toks T n) lo hi s).2 h' ∧ frE h h') (zWp_m (q_R_number (d := d) r) (fun v h' u => by obtain ⟨⟨y, e, ey⟩, u2⟩ := u; exact ⟨y, e, ey, u2⟩)) (fun x h1 u => k x h1 u.1 (p.fr u.2.2) u.2.1 u.2.2)
theorem k_ow {d : Nat} {T : Int → Int} {n x : Int} {s : zRd} {σ h : zH} {f : zH → zR} {Q : zV → zH → Prop} (p : PR σ h) (r : RR T n s h) (i : Nat) (hi : i < 26) (ex : x = (pk8 0 (ownL.getD i []) : Nat)) (k : ∀ h', PR σ h' → RR T n (ndS (toks T n) 2 (i : Int) s) h' → frE h h' → zWp (f h') Q) : zWp (zqv (m_R_mustW (d + 3) x h) f) Q :=
  zWp_bv (q_R_mustO (d := d) r hi ex) (fun _ h1 u => k h1 (p.fr u.2) u.1 u.2)
theorem k_cl {d : Nat} {T : Int → Int} {n : Int} {s : zRd} {σ h : zH} {lx ly : Int} {f : Int → zH → zR} {Q : zV → zH → Prop} (w : WB σ) (p : PR σ h) (r : RR T n s h) (l : 0 ≤ lx ∧ 0 ≤ ly) (k : ∀ y h', (effK (toks T n) (celS (toks T n) σ lx ly s).2 = 0 → y = (celS (toks T n) σ lx ly s).1) → (effK (toks T n) (celS (toks T n) σ lx ly s).2 ≠ 0 → y = 0) → PR σ h' → RR T n (celS (toks T n) σ lx ly s).2 h' → frE h h' → zWp (f y h') Q) : zWp (zqi (m_R_cellFrom (d + 4) lx ly h) f) Q :=
  zWp_bi (P := fun y h' => ((effK (toks T n) (celS (toks T n) σ lx ly s).2 = 0 → y = (celS (toks T n) σ lx ly s).1) ∧ (effK (toks T n) (celS (toks T n) σ lx ly s).2 ≠ 0 → y = 0)) ∧ RR T n (celS (toks T n) σ lx ly s).2 h' ∧ frE h h') (zWp_m (q_R_celF (d := d) w p r l) (fun v h' u => by obtain ⟨⟨y, e, ey⟩, u2⟩ := u; exact ⟨y, e, ey, u2⟩)) (fun x h1 u => k x h1 u.1.1 u.1.2 (p.fr u.2.2) u.2.1 u.2.2)
theorem k_nn {d : Nat} {T : Int → Int} {n : Int} {s : zRd} {σ h : zH} {f : Int → zH → zR} {Q : zV → zH → Prop} (w : WB σ) (p : PR σ h) (r : RR T n s h) (k : ∀ y h', ((newS (toks T n) σ s).2.2.1 = 0 → NmR (newS (toks T n) σ s).1 y) → PR σ h' → RR T n (newS (toks T n) σ s).2 h' → frE h h' → zWp (f y h') Q) : zWp (zql (m_R_fresh (d + 3) h) f) Q := by
  obtain ⟨v, h', e, ⟨y, ev, ey⟩, u⟩ := q_R_fresh (d := d) w p r
  rw [e, ev]
  exact k y h' ey (p.fr u.2) u.1 u.2
theorem k_on {d : Nat} {T : Int → Int} {n : Int} {s : zRd} {σ h : zH} {f : Int → zH → zR} {Q : zV → zH → Prop} (w : WB σ) (p : PR σ h) (r : RR T n s h) (k : ∀ y h', (effK (toks T n) (onrS (toks T n) σ s).2 = 0 → y = (onrS (toks T n) σ s).1) → PR σ h' → RR T n (onrS (toks T n) σ s).2 h' → frE h h' → zWp (f y h') Q) : zWp (zqi (m_R_askedOwner (d + 3) h) f) Q :=
  zWp_bi (P := fun y h' => (effK (toks T n) (onrS (toks T n) σ s).2 = 0 → y = (onrS (toks T n) σ s).1) ∧ RR T n (onrS (toks T n) σ s).2 h' ∧ frE h h') (zWp_m (q_R_asked (d := d) w p r) (fun v h' u => by obtain ⟨⟨y, e, ey⟩, u2⟩ := u; exact ⟨y, e, ey, u2⟩)) (fun x h1 u => k x h1 u.1 (p.fr u.2.2) u.2.1 u.2.2)
theorem nb_t {A : List zTk} {lo hi : Int} {s : zRd} (k : kdS A s = 3) (v : lo ≤ (tkI A s.1).2.2.1 ∧ (tkI A s.1).2.2.1 ≤ hi) : nbS A lo hi s = ((tkI A s.1).2.2.1, advS s) := by
  unfold nbS
  rw [if_pos k, if_pos v]
theorem q_R_freeC {d : Nat} {T : Int → Int} {n : Int} {t : zRd} {σ h : zH} (w : WP σ) (p : PR σ h) (r : RR T n t h) : zWp (m_R_freeCell (d + 4) h) (fun v h' => ∃ y, v = .inl y ∧ ((frcS (toks T n) σ t).2.2.1 = 0 → y = (frcS (toks T n) σ t).1) ∧ RR T n (frcS (toks T n) σ t).2 h' ∧ frE h h') := by
  have b := p.b
  have w1 := w.1.1
  rw [em_R_freeCell, p.1.2.1, w32_i (x := σ 0 0 - 1) (by omega)]
  refine zWp_it b (k_nb (d := d) p r (fun x h1 ex p1 r1 f1 => ?_))
  have b1 := p1.b
  rw [r1.2.1.1]
  have g := eff_g (A := toks T n) r1.1.2.2.2.2
  have ec : celS (toks T n) σ 0 0 t = (if (nbS (toks T n) 0 (σ 0 1 - 1) (nbS (toks T n) 0 (σ 0 0 - 1) t).2).2.2.1 = 0 then (nbS (toks T n) 0 (σ 0 1 - 1) (nbS (toks T n) 0 (σ 0 0 - 1) t).2).1 * σ 0 0 + (nbS (toks T n) 0 (σ 0 0 - 1) t).1 else -1, (nbS (toks T n) 0 (σ 0 1 - 1) (nbS (toks T n) 0 (σ 0 0 - 1) t).2).2) := rfl
  have ce := cel_ok (A := toks T n) (s := t) (lx := 0) (ly := 0) w.1 ⟨by decide, by decide⟩
  by_cases hd : effK (toks T n) (nbS (toks T n) 0 (σ 0 0 - 1) t).2 = 0
  case neg =>
    refine zWp_it (by omega) (zWp_s ?_)
    rw [d_nb hd] at ec
    have e1 : celS (toks T n) σ 0 0 t = (-1, dS (toks T n) (nbS (toks T n) 0 (σ 0 0 - 1) t).2) := by rw [ec]; show ((if (dS (toks T n) (nbS (toks T n) 0 (σ 0 0 - 1) t).2).2.1 = 0 then _ else -1), _) = _; rw [if_neg dS_z]
    have e2 : frcS (toks T n) σ t = (-1, dS (toks T n) (nbS (toks T n) 0 (σ 0 0 - 1) t).2) := by unfold frcS; rw [e1]; exact if_pos rfl
    rw [e2]
    exact ⟨_, rfl, fun z => absurd z dS_z, r1.ds hd, f1⟩
  refine zWp_nt (by rw [hd]; decide) ?_
  have f0 := eff_0 hd
  have k1 := nb_ok f0.1
  have ex' := ex f0.1
  have xb : 0 ≤ x ∧ x ≤ 9 := by rw [ex', k1.2.2.2.2]; omega
  -- the number at the end
  have last : ∀ (c : Int), (celS (toks T n) σ 0 0 t).1 = c → frcS (toks T n) σ t = celS (toks T n) σ 0 0 t → zWp (l_R_freeCell_98 (d + 3) x h1) (fun v h' => ∃ y, v = .inl y ∧ ((frcS (toks T n) σ t).2.2.1 = 0 → y = (frcS (toks T n) σ t).1) ∧ RR T n (frcS (toks T n) σ t).2 h' ∧ frE h h') := by
    intro c hc e
    rw [el_R_freeCell_98, p1.1.2.2, w32_i (x := σ 0 1 - 1) (by omega), e]
    refine zWp_it b1 (k_nb (d := d) p1 r1 (fun y h2 ey p2 r2 f2 => ?_))
    have b2 := p2.b
    rw [p2.1.2.1]
    refine zWp_it b2 (zWp_s ⟨_, rfl, fun z => ?_, r2, f1.t f2⟩)
    have z' : (nbS (toks T n) 0 (σ 0 1 - 1) (nbS (toks T n) 0 (σ 0 0 - 1) t).2).2.2.1 = 0 := z
    obtain ⟨_, x', y', x1, x2, y1, y2, e', p1', p2', p3'⟩ := ce z
    rw [if_pos z'] at ec
    rw [ey z', ex']
    have e1 : (nbS (toks T n) 0 (σ 0 1 - 1) (nbS (toks T n) 0 (σ 0 0 - 1) t).2).1 * σ 0 0 + (nbS (toks T n) 0 (σ 0 0 - 1) t).1 = y' * σ 0 0 + x' := by
      have := congrArg Prod.fst (ec.symm.trans e')
      exact this
    rw [ex'] at xb
    rw [w32_i (x := (nbS (toks T n) 0 (σ 0 1 - 1) (nbS (toks T n) 0 (σ 0 0 - 1) t).2).1 * σ 0 0) (by omega), w32_i (by omega), ec]
  have no : (celS (toks T n) σ 0 0 t).1 = -1 → frcS (toks T n) σ t = celS (toks T n) σ 0 0 t := fun z => by unfold frcS; rw [if_pos z]
  by_cases c1 : (tkI (toks T n) (nbS (toks T n) 0 (σ 0 0 - 1) t).2.1).1 = 3
  case neg =>
    refine zWp_nt (fun z => c1 ((r1.nb hd).1.1 z)) ?_
    rw [el_R_freeCell_61]
    have nz : (celS (toks T n) σ 0 0 t).1 = -1 := by
      rw [ec]
      refine if_neg (fun z => c1 (nb_ok z).2.1)
    exact zWp_it rfl (last _ rfl (no nz))
  have e6 := (r1.nb hd).2 c1
  rw [e6, p1.1.2.2, w32_i (x := σ 0 1 - 1) (by omega)]
  refine zWp_it ((r1.nb hd).1.2 c1) (zWp_it b1 (zWp_qi q_R_is ?_))
  by_cases c2 : 0 ≤ (tkI (toks T n) (nbS (toks T n) 0 (σ 0 0 - 1) t).2.1).2.2.1 ∧ (tkI (toks T n) (nbS (toks T n) 0 (σ 0 0 - 1) t).2.1).2.2.1 ≤ σ 0 1 - 1
  case neg =>
    rw [if_neg c2, el_R_freeCell_61]
    have nz : (celS (toks T n) σ 0 0 t).1 = -1 := by
      rw [ec]
      exact if_neg (fun z => c2 ⟨(nb_ok z).2.2.1, (nb_ok z).2.2.2.1⟩)
    exact zWp_it rfl (zWp_it rfl (last _ rfl (no nz)))
  rw [if_pos c2]
  refine zWp_nt (by decide) ?_
  rw [el_R_freeCell_61]
  have en : nbS (toks T n) 0 (σ 0 1 - 1) (nbS (toks T n) 0 (σ 0 0 - 1) t).2 = ((tkI (toks T n) (nbS (toks T n) 0 (σ 0 0 - 1) t).2.1).2.2.1, advS (nbS (toks T n) 0 (σ 0 0 - 1) t).2) := nb_t (by rw [kd_a hd]; exact c1) c2
  have fa : (advS (nbS (toks T n) 0 (σ 0 0 - 1) t).2).2.1 = 0 := by unfold advS; rw [if_pos f0.1]; exact f0.1
  rw [en] at ec
  have ec2 : celS (toks T n) σ 0 0 t = ((tkI (toks T n) (nbS (toks T n) 0 (σ 0 0 - 1) t).2.1).2.2.1 * σ 0 0 + (nbS (toks T n) 0 (σ 0 0 - 1) t).1, advS (nbS (toks T n) 0 (σ 0 0 - 1) t).2) := by rw [ec]; show ((if (advS _).2.1 = 0 then _ else _), _) = _; rw [if_pos fa]
  obtain ⟨_, x', y', x1, x2, y1, y2, e', p1', p2', p3'⟩ := ce (by rw [ec2]; exact fa)
  have ep : (tkI (toks T n) (nbS (toks T n) 0 (σ 0 0 - 1) t).2.1).2.2.1 * σ 0 0 + (nbS (toks T n) 0 (σ 0 0 - 1) t).1 = y' * σ 0 0 + x' := congrArg Prod.fst (ec2.symm.trans e')
  rw [e6, p1.1.2.1]
  refine zWp_nt (by decide) (zWp_it b1 ?_)
  have ew : w32 (w32 ((tkI (toks T n) (nbS (toks T n) 0 (σ 0 0 - 1) t).2.1).2.2.1 * σ 0 0) + x) = y' * σ 0 0 + x' := by
    have xb' := xb
    rw [ex'] at xb' ⊢
    rw [w32_i (x := (tkI (toks T n) (nbS (toks T n) 0 (σ 0 0 - 1) t).2.1).2.2.1 * σ 0 0) (by omega), w32_i (by omega), ep]
  rw [ew]
  refine zWp_qi (q_R_taken (d := d + 2) w p1 ⟨p1', by omega⟩) ?_
  have pc : (celS (toks T n) σ 0 0 t).1 = y' * σ 0 0 + x' := by rw [e']
  have pn : ¬ (celS (toks T n) σ 0 0 t).1 = -1 := by rw [pc]; omega
  by_cases c3 : freA σ (y' * σ 0 0 + x') = true
  · rw [if_pos c3]
    refine zWp_it rfl (last _ rfl ?_)
    unfold frcS
    rw [if_neg pn, pc, if_pos c3]
  · rw [if_neg c3]
    have e2 : frcS (toks T n) σ t = (-1, flS 4 (tkI (toks T n) (nbS (toks T n) 0 (σ 0 0 - 1) t).2.1).2.1 (advS (nbS (toks T n) 0 (σ 0 0 - 1) t).2)) := by
      unfold frcS
      rw [if_neg pn, pc, if_neg c3, ec2]
      have : (advS (nbS (toks T n) 0 (σ 0 0 - 1) t).2).1 - 1 = (nbS (toks T n) 0 (σ 0 0 - 1) t).2.1 := by unfold advS; rw [if_pos f0.1]; rfl
      show ((-1 : Int), flS 4 (tkI (toks T n) ((advS (nbS (toks T n) 0 (σ 0 0 - 1) t).2).1 - 1)).2.1 _) = _
      rw [this]
    have bb := r1.bl (k := 4) (p := (tkI (toks T n) (nbS (toks T n) 0 (σ 0 0 - 1) t).2.1).2.1) hd (by decide)
    have b8 := (flS_e (A := toks T n) (p := (tkI (toks T n) (nbS (toks T n) 0 (σ 0 0 - 1) t).2.1).2.1) hd (show (4 : Int) ≠ 0 by decide)).1
    have hl := (toks_ok (T := T) r1.1.1).2.1 _ r1.1.2.2.2.1 (by rw [c1]; decide)
    rw [(r1.at hd).1, (r1.at hd).2, e2]
    refine zWp_nt (by decide) (zWp_qv q_R_blame ?_)
    have p3 := p1.fr bb.2
    have b3 := p3.b
    rw [el_R_freeCell_98, em_R_number, bb.1.2.1.1, b8]
    refine zWp_it b3 (zWp_qi (by rw [zit_t (by decide)]) (zWp_it b3 (zWp_s ⟨_, rfl, fun z => absurd z (flS_z (by decide)), bb.1.mv f0.1 (by decide) hl, f1.t bb.2⟩)))
