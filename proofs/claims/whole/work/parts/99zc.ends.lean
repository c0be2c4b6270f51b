/-! the end of a statement, in the reference -/
theorem q_R_en13 {d : Nat} {T : Int → Int} {n e x : Int} {h : zH} {Q : zV → zH → Prop} (h0 : 0 ≤ e) (hn : n ≤ 1600) (hT : ∀ j, 0 ≤ j → j < n → h 404 j = T j) (hN : h 403 2 = n) (N : zWp (l_R_ends_49 d x (rnE cB T n (n - e).toNat e) h) Q) : ∀ (f : Nat) {j : Int}, e ≤ j → n - j ≤ f → j ≤ n → rnE cB T n (n - j).toNat j = rnE cB T n (n - e).toNat e → zWp (l_R_ends_13 d x j h) Q := by
  intro f
  have stop : ∀ j, rnE cB T n (n - j).toNat j = rnE cB T n (n - e).toNat e → ¬ (j < n ∧ cB (T j) = true) → zWp (l_R_ends_49 d x j h) Q := by
    intro j he hs
    rw [rn_st hs] at he
    rw [← he] at N
    exact N
  induction f with
  | zero =>
    intro j hj hf hjn he
    have hf' : n - j ≤ 0 := hf
    rw [el_R_ends_13, hN]
    exact zWp_nt (by omega) (stop j he (fun z => by omega))
  | succ f ih =>
    intro j hj hf hjn he
    rw [el_R_ends_13, hN]
    by_cases c : j < n
    case neg => exact zWp_nt c (stop j he (fun z => c z.1))
    rw [hT j (by omega) c, w32_i (x := j + 1) (by omega)]
    refine zWp_it c (zWp_it (by omega) ?_)
    have nx : cB (T j) = true → zWp (l_R_ends_13 d x (j + 1) h) Q := fun z => ih (by omega) (by omega) (by omega) (by rw [← rn_go c z]; exact he)
    by_cases c1 : T j = 32
    · exact zWp_it c1 (nx (decide_eq_true (Or.inl c1)))
    refine zWp_nt c1 (zWp_it (by omega) ?_)
    by_cases c2 : T j = 10
    · exact zWp_it c2 (nx (decide_eq_true (Or.inr c2)))
    · exact zWp_nt c2 (stop j he (fun z => by have : T j = 32 ∨ T j = 10 := of_decide_eq_true z.2; omega))
def edS (A : List zTk) (x : Int) (s : zRd) : zRd := if x = 100 ∧ sgS A 4 59 s = true ∧ (tkI A (s.1 + 1)).1 ≠ 0 then flS 5 (tkI A (s.1 + 1)).2.1 (advS s) else ndS A 4 59 s
theorem q_R_ends {d : Nat} {T : Int → Int} {n x : Int} {s : zRd} {h : zH} (r : RR T n s h) : zWp (m_R_ends (d + 4) x h) (fun _ h' => RR T n (edS (toks T n) x s) h' ∧ frE h h') := by
  rw [em_R_ends]
  by_cases hd : effK (toks T n) s = 0
  case neg =>
    have g := eff_g (A := toks T n) r.1.2.2.2.2
    have e : edS (toks T n) x s = dS (toks T n) s := by
      unfold edS
      rw [if_neg (fun z => by
        have := (of_decide_eq_true z.2.1).1
        rw [kd_d hd] at this
        exact absurd this (by decide)), d_nd (by decide) hd]
    rw [e]
    exact zWp_it (by rw [r.2.1.1]; omega) (zWp_s ⟨r.ds hd, frE.rf h⟩)
  refine zWp_nt (by rw [r.2.1.1, hd]; decide) ?_
  have f := eff_0 hd
  have t3 := (r.2.2 hd).2.2 f.2
  have hb : 0 ≤ (tkI (toks T n) s.1).2.2.2.1 ∧ (tkI (toks T n) s.1).2.2.2.1 ≤ n := by
    by_cases k0 : (tkI (toks T n) s.1).1 = 0
    · have hl : ¬ s.1 < (lexF T n n.toNat 0).length := fun z => by
        obtain ⟨b, b1, b2, b3, b4⟩ := lex_in (T := T) (n := n) n.toNat 0 _ (tkI_m z)
        have : tkI (toks T n) s.1 = tkAt T n b := by unfold toks; rw [tkI_l z]; exact b4
        rw [this] at k0
        exact (tkAt_ok (T := T) ⟨b1, b2⟩).1 k0
      have el : (toks T n).length = (lexF T n n.toNat 0).length + 1 := by unfold toks; rw [List.length_append]; rfl
      have hs := r.1.2.2.2.1
      have e : s.1 = (lexF T n n.toNat 0).length := by omega
      have : tkI (toks T n) s.1 = (0, n, 0, n, []) := by unfold toks; rw [e]; exact tkI_r
      rw [this]
      exact ⟨r.1.1.1, Int.le_refl _⟩
    · obtain ⟨b, b1, b2, e⟩ := toks_e r.1.2.2.2.1 k0
      have te := tk_end (T := T) b2
      rw [e]; omega
  rw [t3.2.2.1]
  refine q_R_en13 (T := T) (n := n) hb.1 r.1.1.2 r.1.2.2.1 r.1.2.1 ?_ (n - (tkI (toks T n) s.1).2.2.2.1).toNat (Int.le_refl _) (by omega) hb.2 rfl
  rw [el_R_ends_49]
  refine zWp_qi q_R_isSg ?_
  have fin : edS (toks T n) x s = ndS (toks T n) 4 59 s → zWp (zqv (m_R_must (d + 3) 59 h) fun h4 => some (.inl 0, h4)) (fun _ h' => RR T n (edS (toks T n) x s) h' ∧ frE h h') := fun e => zWp_bv (q_R_mustS (d := d) r) (fun _ h1 u => zWp_s (by rw [e]; exact u))
  by_cases c1 : h 403 3 = 3 ∧ h 403 6 = 59
  case neg =>
    rw [if_neg c1]
    exact zWp_it rfl (fin (by unfold edS; rw [if_neg (fun z => c1 ((r.sg hd).2 z.2.1))]))
  rw [if_pos c1]
  have sg := (r.sg hd).1 c1
  have k4 : (tkI (toks T n) s.1).1 = 4 := by rw [← kd_a hd]; exact (of_decide_eq_true sg).1
  have hl := (toks_ok (T := T) r.1.1).2.1 s.1 r.1.2.2.2.1 (by rw [k4]; decide)
  have nt := toks_s (T := T) r.1.1.1 hl
  refine zWp_nt (by decide) ?_
  by_cases c2 : x = 100
  case neg => exact zWp_nt c2 (fin (by unfold edS; rw [if_neg (fun z => c2 z.1)]))
  refine zWp_it c2 ?_
  rw [r.1.2.1]
  have rb := (rn_b (p := cB) (T := T) (n := n) (n - (tkI (toks T n) s.1).2.2.2.1).toNat (tkI (toks T n) s.1).2.2.2.1).1
  unfold nxT at nt
  generalize rnE cB T n (n - (tkI (toks T n) s.1).2.2.2.1).toNat (tkI (toks T n) s.1).2.2.2.1 = b at *
  by_cases c3 : b < n
  · rw [if_pos c3] at nt
    have ta := tkAt_ok (T := T) (n := n) (a := b) ⟨by omega, c3⟩
    rw [← nt] at ta
    have e : edS (toks T n) x s = flS 5 b (advS s) := by unfold edS; rw [if_pos ⟨c2, sg, ta.1⟩, ta.2.1]
    rw [e]
    have bb := r.bl (k := 5) (p := b) hd (by decide)
    have b8 := (flS_e (A := toks T n) (p := b) hd (show (5 : Int) ≠ 0 by decide)).1
    refine zWp_it c3 (zWp_qv q_R_blame ?_)
    have b5 : effK (toks T n) (flS 5 b s) ≠ 0 := by rw [b8]; decide
    have z5 : (flS 5 b s).2.1 ≠ 0 := flS_z (by decide)
    refine zWp_bv (q_R_mustS (d := d) bb.1) (fun _ h1 u => zWp_s ⟨?_, bb.2.t u.2⟩)
    rw [d_nd (by decide) b5] at u
    have ed : dS (toks T n) (flS 5 b s) = flS 5 b s := flS_s z5
    rw [ed] at u
    exact u.1.mv f.1 (by decide) hl
  · rw [if_neg c3] at nt
    refine zWp_nt c3 (fin ?_)
    unfold edS
    rw [if_neg (fun z => z.2.2 (by rw [nt]))]
