/-! thaws -/
def isum (f : Int → Int) : Nat → Int → Int
  | 0, _ => 0
  | n + 1, i => f i + isum f n (i + 1)
theorem isum_b {f : Int → Int} {B : Int} : ∀ (n : Nat) (i : Int), (∀ j, i ≤ j → j < i + n → 0 ≤ f j ∧ f j ≤ B) → 0 ≤ isum f n i ∧ isum f n i ≤ B * n
  | 0, i, _ => by show 0 ≤ (0 : Int) ∧ (0 : Int) ≤ B * ((0 : Nat) : Int); simp
  | n + 1, i, h => by
    have a := isum_b n (i + 1) (fun j h1 h2 => h j (by omega) (by omega))
    have b := h i (by omega) (by omega)
    show 0 ≤ f i + isum f n (i + 1) ∧ f i + isum f n (i + 1) ≤ B * ((n + 1 : Nat) : Int)
    rw [show B * ((n + 1 : Nat) : Int) = B * (n : Int) + B by rw [Int.natCast_add, Int.mul_add]; simp]
    omega
theorem isum_p {f : Int → Int} : ∀ (n : Nat) (i : Int), (∀ j, i ≤ j → j < i + n → 1 ≤ f j) → (n : Int) ≤ isum f n i
  | 0, i, _ => by show ((0 : Nat) : Int) ≤ 0; omega
  | n + 1, i, h => by
    have a := isum_p n (i + 1) (fun j h1 h2 => h j (by omega) (by omega))
    have b := h i (by omega) (by omega)
    show ((n + 1 : Nat) : Int) ≤ f i + isum f n (i + 1)
    omega
/-- odds of all thaws -/
def oddsA (σ : zH) : Int := isum (σ 19) (nT σ).toNat 0
theorem odds_b {σ : zH} (w : WS σ) : 0 ≤ oddsA σ ∧ oddsA σ ≤ 594 := by
  have hT6 : nT σ ≤ 6 := w.2.1.2.2.2.2.2.2.2.1
  have hT0 : 0 ≤ nT σ := w.2.1.2.2.2.2.2.2.1
  have := isum_b (f := σ 19) (B := 99) (nT σ).toNat 0 (fun j h1 h2 => by
    have := w.2.2.2.2.2.2.1 j h1 (by omega)
    omega)
  unfold oddsA
  omega
theorem odds_p {σ : zH} (w : WS σ) (h : ¬ nT σ = 0) : 1 ≤ oddsA σ := by
  have hT0 : 0 ≤ nT σ := w.2.1.2.2.2.2.2.2.1
  have := isum_p (f := σ 19) (nT σ).toNat 0 (fun j h1 h2 => (w.2.2.2.2.2.2.1 j h1 (by omega)).2.2.1)
  unfold oddsA
  omega
theorem q_odds4 {d : Nat} {σ : zH} {a : Int} {h : zH} (g : CS σ a h) (w : WS σ) : ∀ (n : Nat) {i x : Int}, 0 ≤ i → i + n = nT σ → 0 ≤ x ∧ x ≤ 99 * i → l_Slope_oddsOfAll_4 d a x i h = some (.inl (x + isum (σ 19) n i), h) := by
  have ha := g.a
  have hT6 : nT σ ≤ 6 := w.2.1.2.2.2.2.2.2.2.1
  intro n
  induction n with
  | zero =>
    intro i x hi hn hx
    have e : h (a + 8) 13 = nT σ := g.g 8 (by decide)
    rw [el_Slope_oddsOfAll_4, zpo_t (by omega), zpo_t (by omega), if_pos (by decide), e, if_neg (by omega)]
    show _ = some (Sum.inl (x + 0), h)
    rw [Int.add_zero]
  | succ n ih =>
    intro i x hi hn hx
    have e : h (a + 8) 13 = nT σ := g.g 8 (by decide)
    have e19 : h (a + 19) i = σ 19 i := g.g 19 (by decide)
    have ho := w.2.2.2.2.2.2.1 i hi (by omega)
    rw [el_Slope_oddsOfAll_4, zpo_t (by omega), zpo_t (by omega), if_pos (by decide), e, if_pos (by omega), zpo_t (by omega), if_pos (by omega), e19, w32_i (by omega), w32_i (by omega), zpo_t (by omega), ih (by omega) (by omega) (by omega)]
    show some (Sum.inl (x + σ 19 i + isum (σ 19) n (i + 1)), h) = some (Sum.inl (x + (σ 19 i + isum (σ 19) n (i + 1))), h)
    rw [Int.add_assoc]
theorem q_oddsOfAll {d : Nat} {σ : zH} {a : Int} {h : zH} (g : CS σ a h) (w : WS σ) : m_Slope_oddsOfAll (d + 1) a h = some (.inl (oddsA σ), h) := by
  have hT0 : 0 ≤ nT σ := w.2.1.2.2.2.2.2.2.1
  rw [em_Slope_oddsOfAll, q_odds4 g w (nT σ).toNat (by omega) (by omega) (by omega), Int.zero_add]
  rfl
theorem q_R_odds4 {d : Nat} {σ h : zH} (g : RS σ h) (w : WS σ) : ∀ (n : Nat) {i x : Int}, 0 ≤ i → i + n = nT σ → 0 ≤ x ∧ x ≤ 99 * i → l_R_oddsAll_4 d x i h = some (.inl (x + isum (σ 19) n i), h) := by
  have hb := g.b
  have hT6 : nT σ ≤ 6 := w.2.1.2.2.2.2.2.2.2.1
  have e : h 424 (h 403 12) = nT σ := g.2.2.2.1.2.2.2.1
  intro n
  induction n with
  | zero =>
    intro i x hi hn hx
    rw [el_R_oddsAll_4, if_pos (by omega), e, if_neg (by omega)]
    show _ = some (Sum.inl (x + 0), h)
    rw [Int.add_zero]
  | succ n ih =>
    intro i x hi hn hx
    have e19 : h 426 (6 * h 403 12 + i) = σ 19 i := (g.2.2.2.2.2.2.1 i hi (by omega)).2
    have ho := w.2.2.2.2.2.2.1 i hi (by omega)
    rw [el_R_oddsAll_4, if_pos (by omega), e, if_pos (by omega), ixw (by omega) (by omega), if_pos (by omega), e19, w32_i (by omega), w32_i (by omega), ih (by omega) (by omega) (by omega)]
    show some (Sum.inl (x + σ 19 i + isum (σ 19) n (i + 1)), h) = some (Sum.inl (x + (σ 19 i + isum (σ 19) n (i + 1))), h)
    rw [Int.add_assoc]
theorem q_R_oddsAll {d : Nat} {σ h : zH} (g : RS σ h) (w : WS σ) : m_R_oddsAll (d + 1) h = some (.inl (oddsA σ), h) := by
  have hT0 : 0 ≤ nT σ := w.2.1.2.2.2.2.2.2.1
  rw [em_R_oddsAll, q_R_odds4 g w (nT σ).toNat (by omega) (by omega) (by omega), Int.zero_add]
  rfl
/-- a spring over a copy -/
def SprT (σ st : zH) (p t : Int) (h h' : zH) : Prop := RT σ (spr σ p st).1 t h' ∧ RS σ h' ∧ RV (trEv σ (spr σ p st).2) (spr σ p st).2.length h' ∧ RW (trCells (spr σ p st).2) h'
theorem q_R_thaws {d : Nat} {σ st h : zH} {x t f : Int} (w : WS σ) (g : RS σ h) (r : RT σ st f h) (wt : WT σ st) (hx : 0 ≤ x ∧ x < nT σ) (ht : 1 ≤ t ∧ t < 5) (hf : 0 ≤ f ∧ f < 5) (hne : ¬ t = f) : zWp (m_R_thaws (d + 6) x t f h) (fun _ h' => SprT σ st (σ 18 x) t h h' ∧ frQR h h' ∧ (∀ u st', ¬ u = t → RT σ st' u h → RT σ st' u h')) := by
  have hb := g.b
  have hT6 : nT σ ≤ 6 := w.2.1.2.2.2.2.2.2.2.1
  have h18 := w.2.2.2.2.2.2.1 x hx.1 hx.2
  rw [em_R_thaws]
  obtain ⟨v, h1, e1, k1, k2⟩ := q_copiesT (d := d + 4) (t := t) (f := f) (h := h) ht (by omega) hne
  obtain ⟨v6, h2, e2, u1, u2, u3, u4⟩ := q_R_forgets (d := d + 4) (h := h1)
  have f2 : frQR h h2 := (k1.q ht k2).t (frQR.fg u3 u4)
  have g2 : RS σ h2 := g.q f2
  have t2 : RT σ st t h2 := (k1.t w (by omega) r).fr (fun r a b => u3 r (by omega))
  have b2 : h2 403 12 = h 403 12 := f2.2.1 12 (by decide)
  have e18 : h2 425 (6 * h 403 12 + x) = σ 18 x := by
    have := (g2.2.2.2.2.2.2.1 x hx.1 hx.2).1
    rwa [b2] at this
  refine zWp_qv e1 (zWp_qv e2 ?_)
  rw [b2, ixw (by omega) (by omega), e18]
  refine zWp_it (by omega) ?_
  obtain ⟨v3, h3, e3, s1, s2, s3, s4, s5, s6⟩ := q_R_springs (d := d) (p := σ 18 x) (Λ := noLw) (h0 := h) (Δ := noDu) w g2 t2 wt ⟨h18.1, by omega⟩ u1 u2 (by decide) (noDR (by omega))
  rw [List.nil_append, Int.zero_add] at s4
  rw [List.nil_append] at s5
  refine zWp_qv e3 (zWp_s ⟨⟨s1, s2, s4, s5⟩, f2.t (s3.q (by omega)), fun u st' hu ru => ?_⟩)
  have ru2 : RT σ st' u h2 := (k1.o w hu ru).fr (fun r a b => u3 r (by omega))
  have hn := w.n
  have hS10 : nS σ ≤ 10 := w.2.1.2.2.2.1
  have hH8 : nHo σ ≤ 8 := w.2.1.2.2.2.2.2.1
  obtain ⟨r0, r1, r2, r3⟩ := ru2
  refine ⟨r0, fun i a b => ?_, fun i a b => ?_, fun i a b => ?_⟩
  · have := s3.2.2.1 (10 * u + i) (by omega)
    rw [this.1, this.2.1, this.2.2]; exact r1 i a b
  · rw [s3.2.2.2.1 (8 * u + i) (by omega)]; exact r2 i a b
  · rw [s3.2.2.2.2 (60 * u + i) (by omega), s3.1 449 (by decide) (by omega), s3.1 450 (by decide) (by omega)]; exact r3 i a b
