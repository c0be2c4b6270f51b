/-! the reference reads a text, but for what begins behind it -/
theorem fld2 {A : List zTk} {σ : zH} {s : zRd} (e : ndS A 2 0 s = dS A s) : ndS A 4 59 (sField A σ (ndS A 2 0 s)).2 = dS A s := by
  rw [e]
  have z : effK A (dS A s) ≠ 0 := dd_dS
  have n := d_nb (A := A) (lo := 2) (hi := 10) z
  have f : sField A σ (dS A s) = (σ, dS A s) := by
    unfold sField
    rw [n, dS_2, if_pos (show ((-1 : Int), dS A s).1 < 2 by show (-1 : Int) < 2; decide)]
  rw [f]
  show ndS A 4 59 (dS A s) = _
  rw [d_nd (by decide) z, dS_2]
/-- what the reference keeps while it reads into the other bank -/
def frRd (h h' : zH) : Prop := (∀ r, ¬ (r = 403 ∨ 405 ≤ r ∧ r ≤ 440) → h' r = h r) ∧ (∀ q, ¬ (1 ≤ q ∧ q ≤ 9 ∨ 43 ≤ q ∧ q ≤ 66) → h' 403 q = h 403 q) ∧ (∀ r i, 405 ≤ r → r ≤ 434 → ¬ (rsz r * (1 - h 403 12) ≤ i ∧ i < rsz r * (1 - h 403 12) + rsz r) → h' r i = h r i) ∧ h' 403 1 = 0 ∧ h' 403 44 = 1 - h 403 12
theorem q_R_slo {d : Nat} {T : Int → Int} {n : Int} {σ h : zH} {Q : zV → zH → Prop} (z : Z0 σ) (hb : h 403 12 = 0 ∨ h 403 12 = 1) (hn : 0 ≤ n ∧ n ≤ 1600) (h1n : h 403 1 = n) (hT : ∀ j, 0 ≤ j → j < n → h 404 j = T j)
    (K : ∀ (k' : Nat) (h' : zH), RR T n (finS (toks T n) (outY (toks T n) σ).2.2.1) h' → frRd h h' → (effK (toks T n) (finS (toks T n) (outY (toks T n) σ).2.2.1) = 0 → k' = (outY (toks T n) σ).1 ∧ PR (outY (toks T n) σ).2.1 h' ∧ BkN (outY (toks T n) σ).2.2.2.2 h') → zWp (l_R_slope_93 (d + 10) (k' : Int) h') Q) : zWp (m_R_slope (d + 11) h) Q := by
  have ok := toks_ok (T := T) hn
  rw [em_R_slope]
  refine zWp_lt fun h1 e1 => zWp_lt fun h2 e2 => zWp_lt fun h3 e3 => zWp_lt fun h4 e4 => zWp_lt fun h5 e5 => zWp_lt fun h6 e6 => ?_
  have k12 : h5 403 12 = h 403 12 := by rw [e5, zset_j (by decide), e4, zset_j (by decide), e3, zset_j (by decide), e2, zset_j (by decide), e1, zset_j (by decide)]
  rw [k12, w32_i (x := 1 - h 403 12) (by omega)] at e6
  have r6 : ∀ r, r ≠ 403 → h6 r = h r := fun r hr => by rw [e6, zset_n hr, e5, zset_n hr, e4, zset_n hr, e3, zset_n hr, e2, zset_n hr, e1, zset_n hr]
  have s6 : ∀ q, ¬ (q = 1 ∨ q = 2 ∨ q = 5 ∨ q = 8 ∨ q = 9 ∨ q = 44) → h6 403 q = h 403 q := fun q hq => by rw [e6, zset_j (by omega), e5, zset_j (by omega), e4, zset_j (by omega), e3, zset_j (by omega), e2, zset_j (by omega), e1, zset_j (by omega)]
  have a44 : h6 403 44 = 1 - h 403 12 := by rw [e6, zset_e]
  have a9 : h6 403 9 = -1 := by rw [e6, zset_j (by decide), e5, zset_e]
  have a8 : h6 403 8 = 0 := by rw [e6, zset_j (by decide), e5, zset_j (by decide), e4, zset_e]
  have a5 : h6 403 5 = 0 := by rw [e6, zset_j (by decide), e5, zset_j (by decide), e4, zset_j (by decide), e3, zset_e]
  have a1 : h6 403 1 = 0 := by rw [e6, zset_j (by decide), e5, zset_j (by decide), e4, zset_j (by decide), e3, zset_j (by decide), e2, zset_e]
  have a2 : h6 403 2 = n := by rw [e6, zset_j (by decide), e5, zset_j (by decide), e4, zset_j (by decide), e3, zset_j (by decide), e2, zset_j (by decide), e1, zset_e]; exact h1n
  have fin : ∀ h', frBw h6 h' → frRd h h' := by
    intro h' f
    refine ⟨fun r hr => by rw [f.1 r hr, r6 r (by omega)], fun q hq => by rw [f.2.1 q (by omega), s6 q (by omega)], fun r i r1 r2 x => ?_, by rw [f.2.1 1 (by decide)]; exact a1, by rw [f.b]; exact a44⟩
    rw [f.2.2 r i r1 r2 (by rw [a44]; exact x), r6 r (by omega)]
  refine zWp_bv (q_R_clears (d := d + 9) (σ := σ) (by rw [a44]; omega) z) (fun _ h7 u7 => ?_)
  obtain ⟨p7, f7, c7, s7⟩ := u7
  have x0 := toks_0 (T := T) (n := n) hn.1
  refine zWp_bv (q_R_ahead (d := d + 8) (T := T) (n := n) (e := 0) hn (fun j j1 j2 => by rw [f7.1 404 (by decide), r6 404 (by decide)]; exact hT j j1 j2) (by rw [s7 2 (by decide)]; exact a2) (by rw [s7 5 (by decide)]; exact a5) ⟨Int.le_refl _, hn.1⟩ (by rw [s7 8 (by decide)]; exact a8) (by rw [s7 9 (by decide)]; exact a9)) (fun _ h8 u8 => ?_)
  rw [← x0] at u8
  have hl : 0 < (toks T n).length := by unfold toks; rw [List.length_append]; exact Nat.succ_pos _
  have r8 : RR T n (0, 0, -1) h8 := by
    have ee := eff_b (A := toks T n) (s := ((0, 0, -1) : zRd)) rfl
    refine ⟨⟨hn, by rw [u8.2.2 2 (by decide), s7 2 (by decide)]; exact a2, fun j j1 j2 => by rw [u8.2.1 404 (by decide), f7.1 404 (by decide), r6 404 (by decide)]; exact hT j j1 j2, hl, Int.le_refl _⟩, ⟨by rw [ee.1]; exact u8.1.1, by rw [ee.2]; exact u8.1.2.1⟩, fun _ => u8.1⟩
  have w8 : frBw h6 h8 := f7.t u8.2.n.w
  have p8 : PR0 σ h8 := p7.fr (u8.2.2 44 (by decide)) (fun r r1 r2 => u8.2.1 r (by omega))
  have cr8 : CoR [] h8 := ⟨by rw [w8.b, a44]; omega, by rw [u8.2.2 43 (by decide), c7]; rfl, fun j x hj => by cases hj⟩
  have go : ∀ h10, RR T n (fieldY (toks T n) σ (0, 0, -1)).2.1 h10 → frBw h6 h10 → (effK (toks T n) (fieldY (toks T n) σ (0, 0, -1)).2.1 = 0 → PR (fieldY (toks T n) σ (0, 0, -1)).1 h10) → h10 403 43 = 0 → zWp (l_R_slope_64 (d + 10) 1 h10) Q := by
    intro h10 r10 w10 q10 c10
    have KK := K
    unfold outY at KK
    by_cases c : (tkI (toks T n) 0).1 = 0
    · rw [if_pos c] at KK
      dsimp only at KK
      have o : owS (toks T n) (0, 0, -1) ≠ 0 := by
        have ek : kdS (toks T n) (0, 0, -1) = (tkI (toks T n) 0).1 := by unfold kdS; rw [if_pos rfl]
        unfold owS
        rw [if_neg (by rw [ek, c]; decide)]
        decide
      have es : (fieldY (toks T n) σ (0, 0, -1)).2.1 = dS (toks T n) (0, 0, -1) := by unfold fieldY; rw [((fld z).2 o).2.1]
      rw [es] at r10
      rw [fin_z dS_z] at KK
      rw [el_R_slope_64, r10.2.1.1]
      exact zWp_nt dd_dS (KK 1 h10 r10 (fin h10 w10) (fun w => absurd w dd_dS))
    · rw [if_neg c] at KK
      refine q_R_lpY (d := d) (T := T) (n := n) 99 1 (fieldY (toks T n) σ (0, 0, -1)) h10 rfl (by decide) (by rw [if_neg (by decide)]; exact r10) (fun y => ⟨q10 y, ⟨by rw [w10.b, a44]; omega, by rw [c10]; rfl, fun j x hj => by cases hj⟩, fun j a m e hj => by cases hj⟩) (fun y => iy_f z y) (fun k' h' b1 b2 b3 => KK k' h' b1 (fin h' (w10.t b2)) b3)
  by_cases dd : effK (toks T n) (0, 0, -1) = 0
  · refine zWp_it (by rw [r8.2.1.1]; exact dd) (zWp_bv (q_R_field2 (d := d + 6) p8 r8) (fun _ h9 u9 => zWp_bv (q_R_ends (d := d + 6) u9.1) (fun _ h10 u10 => ?_)))
    have e1 : edS (toks T n) 1 (sField (toks T n) σ (ndS (toks T n) 2 0 (0, 0, -1))).2 = ndS (toks T n) 4 59 (sField (toks T n) σ (ndS (toks T n) 2 0 (0, 0, -1))).2 := by unfold edS; rw [if_neg (fun w => absurd w.1 (by decide))]
    rw [e1] at u10
    have w10 : frBw h6 h10 := (w8.t u9.2.1.w).t u10.2.n.w
    have c10 : h10 403 43 = 0 := by rw [u10.2.2 43 (by decide), u9.2.1.2.1 43 (by decide), u8.2.2 43 (by decide), c7]
    by_cases o : owS (toks T n) (0, 0, -1) = 0
    · have f := (fld (A := toks T n) (s := (0, 0, -1)) z).1 o
      have es : fieldY (toks T n) σ (0, 0, -1) = (zset (sField (toks T n) σ (advS (0, 0, -1))).1 8 0 1, ndS (toks T n) 4 59 (sField (toks T n) σ (advS (0, 0, -1))).2, ([], []), ([], [])) := by unfold fieldY; rw [f.2.2]
      rw [f.2.1] at u9 u10
      refine go h10 (by rw [es]; exact u10.1) w10 (fun y => ?_) c10
      rw [es] at y ⊢
      have yb : effK (toks T n) (sField (toks T n) σ (advS (0, 0, -1))).2 = 0 := by
        refine Classical.byContradiction fun w => ?_
        dsimp only at y
        rw [d_nd (by decide) w] at y
        exact dS_e w y
      exact ((u9.2.2 yb).fr u10.2).sk (Or.inl rfl)
    · have f := (fld (A := toks T n) (s := (0, 0, -1)) z).2 o
      have es : (fieldY (toks T n) σ (0, 0, -1)).2.1 = dS (toks T n) (0, 0, -1) := by unfold fieldY; rw [f.2.1]
      rw [fld2 f.2.2] at u10
      refine go h10 (by rw [es]; exact u10.1) w10 (fun y => ?_) c10
      rw [es] at y
      exact absurd y dd_dS
  · refine zWp_nt (by rw [r8.2.1.1]; exact dd) (zWp_bv (q_R_ends (d := d + 6) (x := 1) r8) (fun _ h10 u10 => ?_))
    have e1 : edS (toks T n) 1 (0, 0, -1) = dS (toks T n) (0, 0, -1) := by
      unfold edS
      rw [if_neg (fun w => absurd w.1 (by decide)), d_nd (by decide) dd]
    rw [e1] at u10
    have o : owS (toks T n) (0, 0, -1) ≠ 0 := by
      unfold owS
      rw [if_neg (by rw [kd_d dd]; decide)]
      decide
    have es : (fieldY (toks T n) σ (0, 0, -1)).2.1 = dS (toks T n) (0, 0, -1) := by unfold fieldY; rw [((fld z).2 o).2.1]
    refine go h10 (by rw [es]; exact u10.1) (w8.t u10.2.n.w) (fun y => ?_) (by rw [u10.2.2 43 (by decide), u8.2.2 43 (by decide), c7])
    rw [es] at y
    exact absurd y dd_dS
