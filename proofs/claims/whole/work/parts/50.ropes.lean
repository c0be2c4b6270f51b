/-! ropes -/
def ropeS (σ : zH) : Int := isum (σ 20) (nRo σ).toNat 0
theorem isum_sn {f : Int → Int} : ∀ (n : Nat) (i : Int), isum f (n + 1) i = isum f n i + f (i + n)
  | 0, i => by show f i + 0 = 0 + f (i + ((0 : Nat) : Int)); simp
  | n + 1, i => by
    show f i + isum f (n + 1) (i + 1) = f i + isum f n (i + 1) + f (i + ((n + 1 : Nat) : Int))
    rw [isum_sn n (i + 1), show i + 1 + (n : Int) = i + ((n + 1 : Nat) : Int) by omega]
    omega
theorem rope_b {σ : zH} (w : WS σ) : 0 ≤ ropeS σ ∧ ropeS σ ≤ 89991 := by
  have h9 : nRo σ ≤ 9 := w.2.1.2.2.2.2.2.2.2.2.2.1
  have h0 : 0 ≤ nRo σ := w.2.1.2.2.2.2.2.2.2.2.1
  have := isum_b (f := σ 20) (B := 9999) (nRo σ).toNat 0 (fun j h1 h2 => by
    have := w.2.2.2.2.2.2.2 j h1 (by omega)
    omega)
  unfold ropeS
  omega
theorem q_ropes4 {d : Nat} {σ : zH} {a : Int} {h : zH} (g : CS σ a h) (w : WS σ) : ∀ (n : Nat) {i x : Int}, 0 ≤ i → i + n = nRo σ → 0 ≤ x ∧ x ≤ 9999 * i → l_Slope_ropesTogether_4 d a x i h = some (.inl (x + isum (σ 20) n i), h) := by
  have ha := g.a
  have h9 : nRo σ ≤ 9 := w.2.1.2.2.2.2.2.2.2.2.2.1
  have e : h (a + 8) 15 = nRo σ := g.g 8 (by decide)
  intro n
  induction n with
  | zero =>
    intro i x hi hn hx
    rw [el_Slope_ropesTogether_4, zpo_t (by omega), zpo_t (by omega), if_pos (by decide), e, if_neg (by omega)]
    show _ = some (Sum.inl (x + 0), h)
    rw [Int.add_zero]
  | succ n ih =>
    intro i x hi hn hx
    have e20 : h (a + 20) i = σ 20 i := g.g 20 (by decide)
    have ho := w.2.2.2.2.2.2.2 i hi (by omega)
    rw [el_Slope_ropesTogether_4, zpo_t (by omega), zpo_t (by omega), if_pos (by decide), e, if_pos (by omega), zpo_t (by omega), if_pos (by omega), e20, w32_i (by omega), w32_i (by omega), zpo_t (by omega), ih (by omega) (by omega) (by omega)]
    show some (Sum.inl (x + σ 20 i + isum (σ 20) n (i + 1)), h) = some (Sum.inl (x + (σ 20 i + isum (σ 20) n (i + 1))), h)
    rw [Int.add_assoc]
theorem q_ropesTogether {d : Nat} {σ : zH} {a : Int} {h : zH} (g : CS σ a h) (w : WS σ) : m_Slope_ropesTogether (d + 1) a h = some (.inl (ropeS σ), h) := by
  have h0 : 0 ≤ nRo σ := w.2.1.2.2.2.2.2.2.2.2.1
  rw [em_Slope_ropesTogether, q_ropes4 g w (nRo σ).toNat (by omega) (by omega) (by omega), Int.zero_add]
  rfl
/-- the heaviest stone -/
def hvA (σ st : zH) : Nat → Int → Int → Int
  | 0, _, b => b
  | n + 1, i, b => hvA σ st n (i + 1) (if st 1 i = -1 then b else if b = -1 then i else if σ 13 b < σ 13 i then i else b)
abbrev hv (σ st : zH) : Int := hvA σ st (nS σ).toNat 0 (-1)
theorem hvA_in {σ st : zH} : ∀ (n : Nat) {i b : Int}, 0 ≤ i → i + n = nS σ → (b = -1 ∨ (0 ≤ b ∧ b < nS σ) ∧ ¬ st 1 b = -1) → (hvA σ st n i b = -1 ∨ (0 ≤ hvA σ st n i b ∧ hvA σ st n i b < nS σ) ∧ ¬ st 1 (hvA σ st n i b) = -1)
  | 0, i, b, _, _, hb => hb
  | n + 1, i, b, hi, hn, hb => by
    unfold hvA
    refine hvA_in n (by omega) (by omega) ?_
    by_cases c1 : st 1 i = -1
    · rw [if_pos c1]; exact hb
    · rw [if_neg c1]
      by_cases c2 : b = -1
      · rw [if_pos c2]; exact Or.inr ⟨by omega, c1⟩
      · rw [if_neg c2]
        split
        · exact Or.inr ⟨by omega, c1⟩
        · exact hb
theorem q_heav4 {d : Nat} {σ st : zH} {a : Int} {h : zH} (c : BC σ st a h) : ∀ (n : Nat) {i b : Int}, 0 ≤ i → i + n = nS σ → (b = -1 ∨ 0 ≤ b ∧ b < nS σ) → l_B_heaviestStone_4 d b i h = some (.inl (hvA σ st n i b), h) := by
  have ha := c.2.1.a
  have hS10 : nS σ ≤ 10 := c.2.2.2.1.2.1.2.2.2.1
  have e : h (a + 8) 7 = nS σ := c.2.1.g 8 (by decide)
  intro n
  induction n with
  | zero =>
    intro i b hi hn hb
    rw [el_B_heaviestStone_4, c.1, zpo_t (by omega), zpo_t (by omega), if_pos (by decide), e, if_neg (by omega)]
    rfl
  | succ n ih =>
    intro i b hi hn hb
    have e68 : h 68 i = st 1 i := c.2.2.1.pl (by omega)
    have e13 : ∀ j, h (a + 13) j = σ 13 j := fun j => c.2.1.g 13 (by decide)
    rw [el_B_heaviestStone_4, c.1, zpo_t (by omega), zpo_t (by omega), if_pos (by decide), e, if_pos (by omega), if_pos (by omega), e68, w32_i (by omega), e13, e13]
    unfold hvA
    by_cases c1 : st 1 i = -1
    · rw [if_pos c1, if_pos c1, ih (by omega) (by omega) hb]
    · rw [if_neg c1, if_neg c1]
      by_cases c2 : b = -1
      · rw [if_pos c2, if_pos c2, ih (by omega) (by omega) (by omega)]
      · rw [if_neg c2, if_neg c2, zpo_t (by omega), zpo_t (by omega), if_pos (by omega), zpo_t (by omega), zpo_t (by omega), if_pos (by omega)]
        by_cases c3 : σ 13 b < σ 13 i
        · rw [if_pos c3, if_pos c3, ih (by omega) (by omega) (by omega)]
        · rw [if_neg c3, if_neg c3, ih (by omega) (by omega) hb]
theorem q_R_heav4 {d : Nat} {σ st h : zH} (c : RC σ st h) : ∀ (n : Nat) {i b : Int}, 0 ≤ i → i + n = nS σ → (b = -1 ∨ 0 ≤ b ∧ b < nS σ) → l_R_heaviest_4 d b i h = some (.inl (hvA σ st n i b), h) := by
  have hb0 := c.1.b
  have hS10 : nS σ ≤ 10 := c.2.2.1.2.1.2.2.2.1
  have e : h 415 (h 403 12) = nS σ := c.1.2.2.2.1.2.1
  intro n
  induction n with
  | zero =>
    intro i b hi hn hb
    rw [el_R_heaviest_4, if_pos (by omega), e, if_neg (by omega)]
    rfl
  | succ n ih =>
    intro i b hi hn hb
    have e444 : h 444 i = st 1 i := by
      have := (c.2.1.2.1 i hi (by omega)).1
      rwa [show 10 * 0 + i = i by omega] at this
    rw [el_R_heaviest_4, if_pos (by omega), e, if_pos (by omega), if_pos (by omega), e444, w32_i (x := i + 1) (by omega)]
    unfold hvA
    by_cases c1 : st 1 i = -1
    · rw [if_pos c1, if_pos c1, ih (by omega) (by omega) hb]
    · rw [if_neg c1, if_neg c1]
      by_cases c2 : b = -1
      · rw [if_pos c2, if_pos c2, ih (by omega) (by omega) (by omega)]
      · rw [if_neg c2, if_neg c2, ixw (i := i) (by omega) (by omega), ixw (i := b) (by omega) (by omega), if_pos (by omega), if_pos (by omega), (c.1.2.2.2.2.1 i hi (by omega)).1, (c.1.2.2.2.2.1 b (by omega) (by omega)).1]
        by_cases c3 : σ 13 b < σ 13 i
        · rw [if_pos c3, if_pos c3, ih (by omega) (by omega) (by omega)]
        · rw [if_neg c3, if_neg c3, ih (by omega) (by omega) hb]
/-- ropes without which alone they do not hold -/
def nrA (σ : zH) (L : Int) : Nat → Int → Int → Int
  | 0, _, x => x
  | n + 1, i, x => nrA σ L n (i + 1) (zor x (if ropeS σ - σ 20 i < L then zshl 1 i else 0))
theorem q_nr4 {d : Nat} {σ st : zH} {a L : Int} {h : zH} (c : BC σ st a h) : ∀ (n : Nat) {i x : Int}, 0 ≤ i → i + n = nRo σ → l_B_neededRopes_4 (d + 1) (ropeS σ - L) x i h = some (.inl (nrA σ L n i x), h) := by
  have ha := c.2.1.a
  have h9 : nRo σ ≤ 9 := c.2.2.2.1.2.1.2.2.2.2.2.2.2.2.2.1
  have e : h (a + 8) 15 = nRo σ := c.2.1.g 8 (by decide)
  intro n
  induction n with
  | zero =>
    intro i x hi hn
    rw [el_B_neededRopes_4, c.1, zpo_t (by omega), zpo_t (by omega), if_pos (by decide), e, if_neg (by omega)]
    rfl
  | succ n ih =>
    intro i x hi hn
    have e20 : h (a + 20) i = σ 20 i := c.2.1.g 20 (by decide)
    have z0 : zshl 0 i = 0 := by
      obtain ⟨j, rfl⟩ := Int.eq_ofNat_of_zero_le hi
      have := zshl_n (a := 0) (k := j) (by omega) (by omega)
      simpa using this
    rw [el_B_neededRopes_4, c.1, zpo_t (by omega), zpo_t (by omega), if_pos (by decide), e, if_pos (by omega), zpo_t (by omega), if_pos (by omega), e20, el_B_neededRopes_37, el_B_neededRopes_37, q_oneIf, q_oneIf, zqi_s, zqi_s, if_neg (show ¬ (1 : Int) = 0 by decide), if_pos (show (0 : Int) = 0 from rfl), z0, w32_i (by omega), ih (by omega) (by omega), ih (by omega) (by omega), zpo_t (by omega)]
    rw [show nrA σ L (n + 1) i x = nrA σ L n (i + 1) (zor x (if ropeS σ - σ 20 i < L then zshl 1 i else 0)) from rfl]
    by_cases y : ropeS σ - σ 20 i < L
    · rw [if_pos y, if_pos (by omega)]
    · rw [if_neg y, if_neg (by omega)]
theorem q_R_nr {d : Nat} {σ st h : zH} {L : Int} (c : RC σ st h) (hL : 0 ≤ L ∧ L ≤ 1000000) : ∀ (n : Nat) {i x : Int}, 0 ≤ i → i + n = nRo σ → l_R_ropes_138 d L (ropeS σ) x i h = some (.inl (nrA σ L n i x), h) := by
  have hb := c.1.b
  have hr := rope_b c.2.2.1
  have h9 : nRo σ ≤ 9 := c.2.2.1.2.1.2.2.2.2.2.2.2.2.2.1
  have e : h 427 (h 403 12) = nRo σ := c.1.2.2.2.1.2.2.2.2.1
  intro n
  induction n with
  | zero =>
    intro i x hi hn
    rw [el_R_ropes_138, if_pos (by omega), e, if_neg (by omega)]
    rfl
  | succ n ih =>
    intro i x hi hn
    have e20 : h 428 (9 * h 403 12 + i) = σ 20 i := c.1.2.2.2.2.2.2.2 i hi (by omega)
    have ho := c.2.2.1.2.2.2.2.2.2.2 i hi (by omega)
    rw [el_R_ropes_138, if_pos (by omega), e, if_pos (by omega), ixw (by omega) (by omega), if_pos (by omega), e20, w32_i (x := ropeS σ - σ 20 i) (by omega), w32_i (x := i + 1) (by omega), ih (by omega) (by omega), ih (by omega) (by omega)]
    rw [show nrA σ L (n + 1) i x = nrA σ L n (i + 1) (zor x (if ropeS σ - σ 20 i < L then zshl 1 i else 0)) from rfl]
    by_cases y : ropeS σ - σ 20 i < L
    · rw [if_pos y, if_pos y]
    · rw [if_neg y, if_neg y]
/-- pairs without both of which they do not hold -/
def prF (σ : zH) (L i j : Int) : Int := if ropeS σ - σ 20 i - σ 20 j < L then 1 else 0
theorem prF_c {σ : zH} {L i j : Int} : prF σ L i j = prF σ L j i := by
  unfold prF
  rw [show ropeS σ - σ 20 i - σ 20 j = ropeS σ - σ 20 j - σ 20 i by omega]
theorem prF_b {σ : zH} {L i j : Int} : 0 ≤ prF σ L i j ∧ prF σ L i j ≤ 1 := by unfold prF; split <;> omega
theorem isum_add {f g : Int → Int} : ∀ (n : Nat) (i : Int), isum (fun j => f j + g j) n i = isum f n i + isum g n i
  | 0, i => rfl
  | n + 1, i => by
    show f i + g i + isum (fun j => f j + g j) n (i + 1) = f i + isum f n (i + 1) + (g i + isum g n (i + 1))
    rw [isum_add n (i + 1)]; omega
def prT (σ : zH) (L : Int) (n : Nat) : Int := isum (fun i => isum (prF σ L i) i.toNat 0) n 0
theorem pr_eq {σ : zH} {L : Int} : ∀ n : Nat, prT σ L n = isum (fun r => isum (prF σ L r) ((n : Int) - r - 1).toNat (r + 1)) n 0
  | 0 => rfl
  | n + 1 => by
    have ih := pr_eq (σ := σ) (L := L) n
    have e1 : prT σ L (n + 1) = prT σ L n + isum (prF σ L n) n 0 := by
      show isum _ (n + 1) 0 = _
      rw [isum_sn, Int.zero_add]
      rfl
    rw [e1, ih, isum_sn, Int.zero_add, show (((n + 1 : Nat) : Int) - (n : Int) - 1).toNat = 0 by omega]
    rw [isum_cg (f := fun r => isum (prF σ L r) (((n + 1 : Nat) : Int) - r - 1).toNat (r + 1)) (g := fun r => isum (prF σ L r) ((n : Int) - r - 1).toNat (r + 1) + prF σ L r n) n 0 (fun j j1 j2 => by
      rw [show (((n + 1 : Nat) : Int) - j - 1).toNat = ((n : Int) - j - 1).toNat + 1 by omega, isum_sn, show j + 1 + ((((n : Int) - j - 1).toNat : Nat) : Int) = n by omega])]
    rw [isum_add, isum_cg (f := prF σ L n) (g := fun r => prF σ L r n) n 0 (fun j _ _ => prF_c)]
    show _ = _ + 0
    omega
theorem q_pr21 {d : Nat} {σ st : zH} {a L i : Int} {h : zH} (c : BC σ st a h) (hi : 0 ≤ i ∧ i < nRo σ) (hL : 0 ≤ L ∧ L ≤ 1000000) : ∀ (n : Nat) {j x : Int}, 0 ≤ j → j + n = i → 0 ≤ x ∧ x ≤ 100 + j → l_B_neededPairs_21 (d + 1) (ropeS σ - L) x i j h = l_B_neededPairs_4 (d + 1) (ropeS σ - L) (x + isum (prF σ L i) n j) (i + 1) h := by
  have ha := c.2.1.a
  have h9 : nRo σ ≤ 9 := c.2.2.2.1.2.1.2.2.2.2.2.2.2.2.2.1
  intro n
  induction n with
  | zero =>
    intro j x hj hn hx
    rw [el_B_neededPairs_21, if_neg (by omega), w32_i (by omega)]
    show _ = l_B_neededPairs_4 (d + 1) (ropeS σ - L) (x + 0) (i + 1) h
    rw [Int.add_zero]
  | succ n ih =>
    intro j x hj hn hx
    have e20 : h (a + 20) j = σ 20 j := c.2.1.g 20 (by decide)
    have e20i : h (a + 20) i = σ 20 i := c.2.1.g 20 (by decide)
    have ho := c.2.2.2.1.2.2.2.2.2.2.2 j hj (by omega)
    have hoi := c.2.2.2.1.2.2.2.2.2.2.2 i hi.1 hi.2
    rw [el_B_neededPairs_21, if_pos (by omega), c.1, zpo_t (by omega), zpo_t (by omega), if_pos (by omega), zpo_t (by omega), zpo_t (by omega), if_pos (by omega), e20, e20i, w32_i (x := σ 20 i + σ 20 j) (by omega), q_oneIf, q_oneIf, zqi_s, zqi_s, if_neg (show ¬ (1 : Int) = 0 by decide), if_pos (show (0 : Int) = 0 from rfl), w32_i (x := x + 1) (by omega), w32_i (x := x + 0) (by omega), w32_i (x := j + 1) (by omega)]
    show _ = l_B_neededPairs_4 (d + 1) (ropeS σ - L) (x + (prF σ L i j + isum (prF σ L i) n (j + 1))) (i + 1) h
    unfold prF
    by_cases y : ropeS σ - σ 20 i - σ 20 j < L
    · rw [if_pos (by omega), if_pos y, ih (by omega) (by omega) (by omega), Int.add_assoc]
      rfl
    · rw [if_neg (by omega), if_neg y, ih (by omega) (by omega) (by omega), Int.add_assoc]
      rfl
theorem isum_le1 {f : Int → Int} (hf : ∀ j, 0 ≤ f j ∧ f j ≤ 1) (n : Nat) (i : Int) : 0 ≤ isum f n i ∧ isum f n i ≤ n := by
  have := isum_b (f := f) (B := 1) n i (fun j _ _ => hf j)
  omega
