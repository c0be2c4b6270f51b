/-! image: both alike -/
def pcB (G : zH) (b : Int) : zH := zset (zset G 2 (G 0 1) b) 0 1 (G 0 1 + 1)
theorem pcB_l {G : zH} {b : Int} : pcB G b 0 1 = G 0 1 + 1 := by unfold pcB; rw [zset_e]
theorem CI.pc {σ st : zH} {D : zDR} {K : zKp} {Λ : zLw} {G h : zH} (c : CI σ st D K Λ G h) (hl : 0 ≤ G 0 1 ∧ G 0 1 < 259) {b : Int} : CI σ st D K Λ (pcB G b) (zset (zset h 2 (h 0 3) b) 0 3 (w32 (zset h 2 (h 0 3) b 0 3 + 1))) := by
  have cg := c.2.2.1
  refine c.g ?_ ?_ ?_ (fun r z => ?_)
  · unfold CG at cg ⊢
    obtain ⟨⟨a1, a2⟩, ⟨a3, a4⟩, a5, a6, a7, a8⟩ := cg
    have e1 : ∀ k, ¬ k = 1 → pcB G b 0 k = G 0 k := fun k hk => by unfold pcB; rw [zset_j hk, zset_o (by decide)]
    have e2 : ∀ r j, ¬ r = 0 → ¬ r = 2 → pcB G b r j = G r j := fun r j h0 h1 => by unfold pcB; rw [zset_o h0, zset_o h1]
    refine ⟨⟨?_, fun j j1 j2 => ?_⟩, ⟨?_, fun j j1 j2 => ?_⟩, fun i i1 i2 => ?_, ?_, ?_, ?_⟩
    · rw [zset_j (by decide), zset_o (by decide), e1 0 (by decide)]; exact a1
    · rw [e1 0 (by decide)] at j2
      rw [zset_o (by decide), zset_o (by decide), e2 1 j (by decide) (by decide)]; exact a2 j j1 j2
    · rw [zset_e, zset_o (by decide), a3, pcB_l, w32_i (by omega)]
    · rw [pcB_l] at j2
      unfold pcB
      rw [zset_o (by decide), zset_g, zset_o (by decide), zset_g, a3]
      by_cases e : j = G 0 1
      · rw [if_pos e, if_pos e]
      · rw [if_neg e, if_neg e]; exact a4 j j1 (by omega)
    · rw [zset_o (by decide), zset_o (by decide), e2 3 i (by decide) (by decide)]; exact a5 i i1 i2
    · rw [zset_j (by decide), zset_o (by decide), e1 2 (by decide)]; exact a6
    · rw [zset_o (by decide), zset_o (by decide), e1 3 (by decide)]; exact a7
    · rw [zset_o (by decide), zset_o (by decide), e1 4 (by decide)]; exact a8
  · rw [zset_j (by decide), zset_o (by decide)]
  · rw [zset_j (by decide), zset_o (by decide)]
  · unfold crC at z
    rw [zset_n (by omega), zset_n (by omega)]
theorem RI.pc {σ st : zH} {D : zDR} {K : zKp} {Λ : zLw} {G h : zH} (c : RI σ st D K Λ G h) (hl : 0 ≤ G 0 1 ∧ G 0 1 < 259) {b : Int} : RI σ st D K Λ (pcB G b) (zset (zset h 463 (h 403 93) b) 403 93 (w32 (zset h 463 (h 403 93) b 403 93 + 1))) := by
  have cg := c.2.1
  refine c.g ?_ (fun q z => ?_) (fun r z => ?_)
  · unfold RG at cg ⊢
    obtain ⟨⟨a1, a2⟩, ⟨a3, a4⟩, a5, a6, a7, a8⟩ := cg
    have e1 : ∀ k, ¬ k = 1 → pcB G b 0 k = G 0 k := fun k hk => by unfold pcB; rw [zset_j hk, zset_o (by decide)]
    have e2 : ∀ r j, ¬ r = 0 → ¬ r = 2 → pcB G b r j = G r j := fun r j h0 h1 => by unfold pcB; rw [zset_o h0, zset_o h1]
    refine ⟨⟨?_, fun j j1 j2 => ?_⟩, ⟨?_, fun j j1 j2 => ?_⟩, fun i i1 i2 => ?_, ?_, ?_, ?_⟩
    · rw [zset_j (by decide), zset_o (by decide), e1 0 (by decide)]; exact a1
    · rw [e1 0 (by decide)] at j2
      rw [zset_o (by decide), zset_o (by decide), e2 1 j (by decide) (by decide)]; exact a2 j j1 j2
    · rw [zset_e, zset_o (by decide), a3, pcB_l, w32_i (by omega)]
    · rw [pcB_l] at j2
      unfold pcB
      rw [zset_o (by decide), zset_g, zset_o (by decide), zset_g, a3]
      by_cases e : j = G 0 1
      · rw [if_pos e, if_pos e]
      · rw [if_neg e, if_neg e]; exact a4 j j1 (by omega)
    · rw [zset_o (by decide), zset_o (by decide), e2 3 i (by decide) (by decide)]; exact a5 i i1 i2
    · rw [zset_j (by decide), zset_o (by decide), e1 2 (by decide)]; exact a6
    · rw [zset_j (by decide), zset_o (by decide), e1 3 (by decide)]; exact a7
    · rw [zset_j (by decide), zset_o (by decide), e1 4 (by decide)]; exact a8
  · rw [zset_j (by omega), zset_o (by decide)]
  · rw [zset_n (by omega), zset_n (by omega)]
theorem WG.pc {G : zH} (w : WG G) (hl : 0 ≤ G 0 1 ∧ G 0 1 < 259) {b : Int} : WG (pcB G b) := by
  obtain ⟨w1, w2, w3, w4⟩ := w
  have e1 : ∀ k, ¬ k = 1 → pcB G b 0 k = G 0 k := fun k hk => by unfold pcB; rw [zset_j hk, zset_o (by decide)]
  refine ⟨by rw [e1 0 (by decide)]; exact w1, fun j j1 j2 => ?_, by rw [pcB_l]; omega, by rw [e1 2 (by decide)]; exact w4⟩
  rw [e1 0 (by decide)] at j2
  unfold pcB
  rw [zset_o (by decide), zset_o (by decide)]
  exact w2 j j1 j2
/-- the picture's bytes -/
def PB (G : zH) : Prop := ∀ j, 0 ≤ j → j < G 0 1 → 0 ≤ G 2 j ∧ G 2 j ≤ 255
theorem PB.pc {G : zH} (p : PB G) {b : Int} (hb : 0 ≤ b ∧ b ≤ 255) : PB (pcB G b) := by
  intro j j1 j2
  rw [pcB_l] at j2
  unfold pcB
  rw [zset_o (by decide), zset_g]
  by_cases e : j = G 0 1
  · rw [if_pos e]; exact hb
  · rw [if_neg e]; exact p j j1 (by omega)
/-- the picture begun anew -/
def pcZ (G : zH) : zH := zset G 0 1 0
theorem CI.pz {σ st : zH} {D : zDR} {K : zKp} {Λ : zLw} {G h : zH} (c : CI σ st D K Λ G h) : CI σ st D K Λ (pcZ G) (zset h 0 3 0) := by
  have cg := c.2.2.1
  refine c.g ?_ (zset_j (by decide)) (zset_j (by decide)) (fun r z => zset_n (by unfold crC at z; omega))
  unfold CG at cg ⊢
  obtain ⟨⟨a1, a2⟩, ⟨a3, a4⟩, a5, a6, a7, a8⟩ := cg
  unfold pcZ
  refine ⟨⟨?_, fun j j1 j2 => ?_⟩, ⟨?_, fun j j1 j2 => ?_⟩, fun i i1 i2 => ?_, ?_, ?_, ?_⟩
  · rw [zset_j (by decide), zset_j (by decide)]; exact a1
  · rw [zset_j (by decide)] at j2
    rw [zset_o (by decide), zset_o (by decide)]; exact a2 j j1 j2
  · rw [zset_e, zset_e]
  · rw [zset_e] at j2
    omega
  · rw [zset_o (by decide), zset_o (by decide)]; exact a5 i i1 i2
  · rw [zset_j (by decide), zset_j (by decide)]; exact a6
  · rw [zset_o (by decide), zset_j (by decide)]; exact a7
  · rw [zset_o (by decide), zset_j (by decide)]; exact a8
theorem RI.pz {σ st : zH} {D : zDR} {K : zKp} {Λ : zLw} {G h : zH} (c : RI σ st D K Λ G h) : RI σ st D K Λ (pcZ G) (zset h 403 93 0) := by
  have cg := c.2.1
  refine c.g ?_ (fun q z => zset_j (by omega)) (fun r z => zset_n (by omega))
  unfold RG at cg ⊢
  obtain ⟨⟨a1, a2⟩, ⟨a3, a4⟩, a5, a6, a7, a8⟩ := cg
  unfold pcZ
  refine ⟨⟨?_, fun j j1 j2 => ?_⟩, ⟨?_, fun j j1 j2 => ?_⟩, fun i i1 i2 => ?_, ?_, ?_, ?_⟩
  · rw [zset_j (by decide), zset_j (by decide)]; exact a1
  · rw [zset_j (by decide)] at j2
    rw [zset_o (by decide), zset_o (by decide)]; exact a2 j j1 j2
  · rw [zset_e, zset_e]
  · rw [zset_e] at j2
    omega
  · rw [zset_o (by decide), zset_o (by decide)]; exact a5 i i1 i2
  · rw [zset_j (by decide), zset_j (by decide)]; exact a6
  · rw [zset_j (by decide), zset_j (by decide)]; exact a7
  · rw [zset_j (by decide), zset_j (by decide)]; exact a8
theorem WG.pz {G : zH} (w : WG G) : WG (pcZ G) := by
  obtain ⟨w1, w2, w3, w4⟩ := w
  unfold pcZ
  refine ⟨by rw [zset_j (by decide)]; exact w1, fun j j1 j2 => ?_, by rw [zset_e]; omega, by rw [zset_j (by decide)]; exact w4⟩
  rw [zset_j (by decide)] at j2
  rw [zset_o (by decide)]
  exact w2 j j1 j2
theorem PB.pz {G : zH} : PB (pcZ G) := by
  intro j j1 j2
  unfold pcZ at j2
  rw [zset_e] at j2
  omega
def pcS (st : zH) : Nat → Int → zH → zH
  | 0, _, G => G
  | n + 1, i, G => pcS st n (i + 1) (pcB G (st 1 i + 1))
def pcH (st : zH) : Nat → Int → zH → zH
  | 0, _, G => G
  | n + 1, i, G => pcH st n (i + 1) (pcB G (st 9 i))
def pcC (st : zH) : Nat → Int → zH → zH
  | 0, _, G => G
  | n + 1, c, G => pcC st n (c + 1) (pcB (pcB (pcB (pcB G (st 5 c / 256)) (st 5 c % 256)) (st 6 c)) (st 8 c))
def chk (f : Int → Int) : Nat → Int → Int → Int
  | 0, _, x => x
  | n + 1, k, x => chk f n (k + 1) (Int.tmod (w32 (w32 (3 * x) + f k)) 253)
theorem chk_cg {f g : Int → Int} : ∀ (n : Nat) {k x : Int}, (∀ j, k ≤ j → j < k + n → f j = g j) → chk f n k x = chk g n k x
  | 0, _, _, _ => rfl
  | n + 1, k, x, h => by
    show chk f n (k + 1) _ = chk g n (k + 1) _
    rw [h k (by omega) (by omega)]
    exact chk_cg n (fun j j1 j2 => h j (by omega) (by omega))
theorem chk_in {f : Int → Int} : ∀ (n : Nat) {k x : Int}, (∀ j, k ≤ j → j < k + n → 0 ≤ f j ∧ f j ≤ 255) → 0 ≤ x ∧ x ≤ 252 → 0 ≤ chk f n k x ∧ chk f n k x ≤ 252
  | 0, _, _, _, hx => hx
  | n + 1, k, x, h, hx => by
    show 0 ≤ chk f n (k + 1) _ ∧ chk f n (k + 1) _ ≤ 252
    have hk := h k (by omega) (by omega)
    rw [w32_i (x := 3 * x) (by omega), w32_i (x := 3 * x + f k) (by omega)]
    refine chk_in n (fun j j1 j2 => h j (by omega) (by omega)) ?_
    rw [Int.tmod_eq_emod_of_nonneg (by omega)]
    omega
theorem pcS_p {st : zH} : ∀ (n : Nat) {i : Int} {G : zH}, PB G → (∀ j, i ≤ j → j < i + n → 0 ≤ st 1 j + 1 ∧ st 1 j + 1 ≤ 255) → PB (pcS st n i G) ∧ pcS st n i G 0 1 = G 0 1 + n
  | 0, i, G, p, _ => ⟨p, by show G 0 1 = G 0 1 + ((0 : Nat) : Int); omega⟩
  | n + 1, i, G, p, h => by
    have := pcS_p n (i := i + 1) (p.pc (h i (by omega) (by omega))) (fun j j1 j2 => h j (by omega) (by omega))
    rw [pcB_l] at this
    exact ⟨this.1, by show pcS st n (i + 1) _ 0 1 = _; rw [this.2]; omega⟩
theorem pcH_p {st : zH} : ∀ (n : Nat) {i : Int} {G : zH}, PB G → (∀ j, i ≤ j → j < i + n → 0 ≤ st 9 j ∧ st 9 j ≤ 255) → PB (pcH st n i G) ∧ pcH st n i G 0 1 = G 0 1 + n
  | 0, i, G, p, _ => ⟨p, by show G 0 1 = G 0 1 + ((0 : Nat) : Int); omega⟩
  | n + 1, i, G, p, h => by
    have := pcH_p n (i := i + 1) (p.pc (h i (by omega) (by omega))) (fun j j1 j2 => h j (by omega) (by omega))
    rw [pcB_l] at this
    exact ⟨this.1, by show pcH st n (i + 1) _ 0 1 = _; rw [this.2]; omega⟩
def pcOk (st : zH) (j : Int) : Prop := (0 ≤ st 5 j ∧ st 5 j ≤ 9999) ∧ (0 ≤ st 6 j ∧ st 6 j ≤ 99) ∧ (0 ≤ st 8 j ∧ st 8 j ≤ 1)
theorem pcC_p {st : zH} : ∀ (n : Nat) {i : Int} {G : zH}, PB G → (∀ j, i ≤ j → j < i + n → pcOk st j) → PB (pcC st n i G) ∧ pcC st n i G 0 1 = G 0 1 + 4 * n
  | 0, i, G, p, _ => ⟨p, by show G 0 1 = G 0 1 + 4 * ((0 : Nat) : Int); omega⟩
  | n + 1, i, G, p, h => by
    obtain ⟨h5, h6, h8⟩ := h i (by omega) (by omega)
    have := pcC_p n (i := i + 1) ((((p.pc (b := st 5 i / 256) (by omega)).pc (b := st 5 i % 256) (by omega)).pc (b := st 6 i) (by omega)).pc (b := st 8 i) (by omega)) (fun j j1 j2 => h j (by omega) (by omega))
    rw [pcB_l, pcB_l, pcB_l, pcB_l] at this
    exact ⟨this.1, by show pcC st n (i + 1) _ 0 1 = _; rw [this.2]; omega⟩
theorem q_putPic {d : Nat} {σ st : zH} {D : zDR} {K : zKp} {Λ : zLw} {G h : zH} {b : Int} (c : CI σ st D K Λ G h) (hl : 0 ≤ G 0 1 ∧ G 0 1 < 259) : zWp (m_B_putInPicture (d + 1) b h) (fun _ h' => CI σ st D K Λ (pcB G b) h' ∧ fr403 h h') := by
  have e3 : h 0 3 = G 0 1 := c.2.2.1.2.1.1
  have cp := c.pc hl (b := b)
  rw [em_B_putInPicture]
  refine zWp_it (by omega) (zWp_it (by omega) (zWp_lt (fun h1 e1 => zWp_lt (fun h2 e2 => zWp_s ?_))))
  rw [e2, e1]
  exact ⟨cp, fun r hr => by rw [zset_n (by omega), zset_n (by omega)]⟩
theorem q_putPicE {d : Nat} {σ st : zH} {D : zDR} {K : zKp} {Λ : zLw} {G h : zH} {x b : Int} (c : CI σ st D K Λ G h) (hl : 0 ≤ G 0 1 ∧ G 0 1 < 259) (hx : x = b) : zWp (m_B_putInPicture (d + 1) x h) (fun _ h' => CI σ st D K Λ (pcB G b) h' ∧ fr403 h h') := by
  rw [hx]
  exact q_putPic c hl
theorem q_R_writes {d : Nat} {σ st : zH} {D : zDR} {K : zKp} {Λ : zLw} {G h : zH} {x b : Int} (c : RI σ st D K Λ G h) (hl : 0 ≤ G 0 1 ∧ G 0 1 < 259) (hx : x % 256 = b) : zWp (m_R_writes (d + 1) x h) (fun _ h' => RI σ st D K Λ (pcB G b) h' ∧ frLo h h') := by
  have e3 : h 403 93 = G 0 1 := c.2.1.2.1.1
  have cp := c.pc hl (b := b)
  rw [em_R_writes, zand_255, hx]
  refine zWp_it (by omega) (zWp_lt (fun h1 e1 => zWp_lt (fun h2 e2 => zWp_s ?_)))
  rw [e2, e1]
  exact ⟨cp, fun r hr => by rw [zset_n (by omega), zset_n (by omega)]⟩
theorem q_img7 {d : Nat} {σ st : zH} {D : zDR} {K : zKp} {Λ : zLw} {Q : zV → zH → Prop} : ∀ (n : Nat) {i : Int} {G h : zH}, CI σ st D K Λ G h → 0 ≤ i → i + n = nS σ → 0 ≤ G 0 1 ∧ G 0 1 + n ≤ 259 → (∀ h', CI σ st D K Λ (pcS st n i G) h' → fr403 h h' → zWp (l_B_image_61 (d + 1) 0 h') Q) → zWp (l_B_image_7 (d + 1) i h) Q
  | 0, i, G, h, c, hi, hh, hl, N => by
    have ha := c.1.2.1.a
    have e7 : h (h 0 7 + 8) 7 = nS σ := c.1.2.1.g 8 (by decide)
    rw [el_B_image_7, e7]
    exact zWp_po (by omega) (zWp_po (by omega) (zWp_it (by decide) (zWp_nt (by omega) (N h c (fr403.rf h)))))
  | n + 1, i, G, h, c, hi, hh, hl, N => by
    have ha := c.1.2.1.a
    have e7 : h (h 0 7 + 8) 7 = nS σ := c.1.2.1.g 8 (by decide)
    have hS10 : nS σ ≤ 10 := c.1.2.2.2.1.2.1.2.2.2.1
    have hn := c.1.2.2.2.1.n
    have e1 : h 68 i = st 1 i := c.1.2.2.1.pl (by omega)
    have hp := (c.1.2.2.2.2.1 i hi (by omega)).1
    rw [el_B_image_7, e7, e1, w32_i (x := i + 1) (by omega), w32_i (x := st 1 i + 1) (by omega)]
    refine zWp_po (by omega) (zWp_po (by omega) (zWp_it (by decide) (zWp_it (by omega) (zWp_it (by omega) (zWp_if (fun z => ?_) (fun z => zWp_it (by omega) ?_))))))
    · exact zWp_bv (q_putPicE (b := st 1 i + 1) (d := d) c (by omega) (by omega)) (fun v h1 u => q_img7 n u.1 (by omega) (by omega) (by rw [pcB_l]; omega) (fun h' c' f => N h' c' (u.2.t f)))
    · exact zWp_bv (q_putPic (b := st 1 i + 1) (d := d) c (by omega)) (fun v h1 u => q_img7 n u.1 (by omega) (by omega) (by rw [pcB_l]; omega) (fun h' c' f => N h' c' (u.2.t f)))
theorem q_img61 {d : Nat} {σ st : zH} {D : zDR} {K : zKp} {Λ : zLw} {Q : zV → zH → Prop} : ∀ (n : Nat) {i : Int} {G h : zH}, CI σ st D K Λ G h → 0 ≤ i → i + n = nHo σ → 0 ≤ G 0 1 ∧ G 0 1 + n ≤ 259 → (∀ h', CI σ st D K Λ (pcH st n i G) h' → fr403 h h' → zWp (l_B_image_98 (d + 1) 0 h') Q) → zWp (l_B_image_61 (d + 1) i h) Q
  | 0, i, G, h, c, hi, hh, hl, N => by
    have ha := c.1.2.1.a
    have e7 : h (h 0 7 + 8) 10 = nHo σ := c.1.2.1.g 8 (by decide)
    rw [el_B_image_61, e7]
    exact zWp_po (by omega) (zWp_po (by omega) (zWp_it (by decide) (zWp_nt (by omega) (N h c (fr403.rf h)))))
  | n + 1, i, G, h, c, hi, hh, hl, N => by
    have ha := c.1.2.1.a
    have e7 : h (h 0 7 + 8) 10 = nHo σ := c.1.2.1.g 8 (by decide)
    have hH8 : nHo σ ≤ 8 := c.1.2.2.2.1.2.1.2.2.2.2.2.1
    have h9 := c.1.2.2.2.2.2.2 i hi (by omega)
    rw [el_B_image_61, e7, w32_i (x := i + 1) (by omega)]
    refine zWp_po (by omega) (zWp_po (by omega) (zWp_it (by decide) (zWp_it (by omega) (zWp_qi (q_isRuin c.1.2.2.1 (by omega)) (zWp_qi q_oneIf ?_)))))
    have ev : (if (if st 9 i = 1 then (1 : Int) else 0) = 0 then (0 : Int) else 1) = st 9 i := by
      rcases h9 with q | q <;> rw [q] <;> rfl
    rw [ev]
    exact zWp_bv (q_putPic (b := st 9 i) (d := d) c (by omega)) (fun v h1 u => q_img61 n u.1 (by omega) (by omega) (by rw [pcB_l]; omega) (fun h' c' f => N h' c' (u.2.t f)))
theorem q_chk {d n0 : Nat} {x0 L : Int} {h : zH} (h0 : 0 ≤ x0) (hL : L ≤ n0) (hL2 : L ≤ 100000) : ∀ (n : Nat) {k x : Int}, 0 ≤ k → k + n = L → l_B_checkOf_5 d n0 x0 L x k h = some (.inl (chk (h x0) n k x), h)
  | 0, k, x, hk, hh => by rw [el_B_checkOf_5, zit_f (by omega)]; rfl
  | n + 1, k, x, hk, hh => by
    rw [el_B_checkOf_5, zit_t (by omega), zpo_t h0, zit_t (by omega), zpo_t h0, zit_t (by omega), w32_i (x := k + 1) (by omega), q_chk h0 hL hL2 n (by omega) (by omega)]
    rfl
theorem q_img98 {d : Nat} {σ st : zH} {D : zDR} {K : zKp} {Λ : zLw} : ∀ (n : Nat) {i : Int} {G h : zH}, CI σ st D K Λ G h → 0 ≤ i → i + n = nC σ → 0 ≤ G 0 1 ∧ G 0 1 + 4 * n < 259 → PB G → zWp (l_B_image_98 (d + 1) i h) (fun v h' => v = .inl (pcC st n i G 0 1 + 1) ∧ CI σ st D K Λ (pcB (pcC st n i G) (chk (pcC st n i G 2) (pcC st n i G 0 1).toNat 0 83)) h' ∧ fr403 h h')
  | 0, i, G, h, c, hi, hh, hl, p => by
    have ha := c.1.2.1.a
    have e3 : h 0 3 = G 0 1 := c.2.2.1.2.1.1
    rw [el_B_image_98]
    refine zWp_po (by omega) (zWp_qi (q_cells c.1.2.1 c.1.2.2.2.1) (zWp_nt (by omega) ?_))
    rw [em_B_checkOf, e3, q_chk (by decide) (by omega) (by omega) (G 0 1).toNat (k := 0) (by decide) (by omega), zqi_s, chk_cg (g := G 2) _ (fun j j1 j2 => c.2.2.1.2.1.2 j j1 (by omega))]
    refine zWp_bv (q_putPic (b := chk (G 2) (G 0 1).toNat 0 83) (d := d) c (by omega)) (fun v h1 u => zWp_s ⟨?_, u.1, u.2⟩)
    rw [u.1.2.2.1.2.1.1, pcB_l]
    rfl
  | n + 1, i, G, h, c, hi, hh, hl, p => by
    have ha := c.1.2.1.a
    have hn := c.1.2.2.2.1.n
    have w := c.1.2.2.2.1
    obtain ⟨w5, w5', w6, w6', w8, _⟩ := c.1.2.2.2.2.2.1 i hi (by omega)
    rw [el_B_image_98, w32_i (x := i + 1) (by omega)]
    refine zWp_po (by omega) (zWp_qi (q_cells c.1.2.1 w) (zWp_it (by omega) (zWp_it (by omega) ?_)))
    have e5 : h 72 i = st 5 i := c.1.2.2.1.ho (by omega)
    rw [e5, show (8 : Int) = ((8 : Nat) : Int) from rfl, zshr_g (a := st 5 i) (by unfold zI32; omega) (by decide), show ((2 ^ 8 : Nat) : Int) = 256 from rfl]
    refine zWp_bv (q_putPic (b := st 5 i / 256) (d := d) c (by omega)) (fun v h1 u1 => zWp_it (by omega) ?_)
    have e5 : h1 72 i = st 5 i := u1.1.1.2.2.1.ho (by omega)
    rw [e5, zand_255]
    refine zWp_bv (q_putPic (b := st 5 i % 256) (d := d) u1.1 (by rw [pcB_l]; omega)) (fun v h2 u2 => zWp_it (by omega) ?_)
    have e6 : h2 73 i = st 6 i := u2.1.1.2.2.1.ro (by omega)
    rw [e6]
    refine zWp_bv (q_putPic (b := st 6 i) (d := d) u2.1 (by rw [pcB_l, pcB_l]; omega)) (fun v h3 u3 => zWp_qi (q_hasNet u3.1.1.2.2.1 (by omega)) (zWp_qi q_oneIf ?_))
    have ev : (if (if st 8 i = 1 then (1 : Int) else 0) = 0 then (0 : Int) else 1) = st 8 i := by
      rcases w8 with q | q <;> rw [q] <;> rfl
    rw [ev]
    refine zWp_bv (q_putPic (b := st 8 i) (d := d) u3.1 (by rw [pcB_l, pcB_l, pcB_l]; omega)) (fun v h4 u4 => ?_)
    refine zWp_m (q_img98 n u4.1 (by omega) (by omega) (by rw [pcB_l, pcB_l, pcB_l, pcB_l]; omega) ((((p.pc (b := st 5 i / 256) (by omega)).pc (b := st 5 i % 256) (by omega)).pc (b := st 6 i) (by omega)).pc (b := st 8 i) (by omega))) (fun v h' u => ⟨u.1, u.2.1, (((u1.2.t u2.2).t u3.2).t u4.2).t u.2.2⟩)
theorem q_Rimg7 {d : Nat} {σ st : zH} {D : zDR} {K : zKp} {Λ : zLw} {Q : zV → zH → Prop} : ∀ (n : Nat) {i : Int} {G h : zH}, RI σ st D K Λ G h → 0 ≤ i → i + n = nS σ → 0 ≤ G 0 1 ∧ G 0 1 + n ≤ 259 → (∀ h', RI σ st D K Λ (pcS st n i G) h' → frLo h h' → zWp (l_R_image_40 (d + 1) 0 h') Q) → zWp (l_R_image_7 (d + 1) i h) Q
  | 0, i, G, h, c, hi, hh, hl, N => by
    have hb := c.1.1.b
    have e7 : h 415 (h 403 12) = nS σ := c.1.1.2.2.2.1.2.1
    rw [el_R_image_7, e7]
    exact zWp_it (by omega) (zWp_nt (by omega) (N h c (frLo.rf h)))
  | n + 1, i, G, h, c, hi, hh, hl, N => by
    have hb := c.1.1.b
    have e7 : h 415 (h 403 12) = nS σ := c.1.1.2.2.2.1.2.1
    have hS10 : nS σ ≤ 10 := c.1.2.2.1.2.1.2.2.2.1
    have hn := c.1.2.2.1.n
    have e1 := (c.1.2.1.2.1 i hi (by omega)).1
    rw [show 10 * 0 + i = i by omega] at e1
    have hp := (c.1.2.2.2.1 i hi (by omega)).1
    rw [el_R_image_7, e7, e1, w32_i (x := i + 1) (by omega), w32_i (x := st 1 i + 1) (by omega)]
    exact zWp_it (by omega) (zWp_it (by omega) (zWp_it (by omega) (zWp_bv (q_R_writes (b := st 1 i + 1) (d := d) c (by omega) (by omega)) (fun v h1 u => q_Rimg7 n u.1 (by omega) (by omega) (by rw [pcB_l]; omega) (fun h' c' f => N h' c' (u.2.t f))))))
theorem q_Rimg40 {d : Nat} {σ st : zH} {D : zDR} {K : zKp} {Λ : zLw} {Q : zV → zH → Prop} : ∀ (n : Nat) {i : Int} {G h : zH}, RI σ st D K Λ G h → 0 ≤ i → i + n = nHo σ → 0 ≤ G 0 1 ∧ G 0 1 + n ≤ 259 → (∀ h', RI σ st D K Λ (pcH st n i G) h' → frLo h h' → zWp (l_R_image_71 (d + 1) 0 h') Q) → zWp (l_R_image_40 (d + 1) i h) Q
  | 0, i, G, h, c, hi, hh, hl, N => by
    have hb := c.1.1.b
    have e7 : h 420 (h 403 12) = nHo σ := c.1.1.2.2.2.1.2.2.1
    rw [el_R_image_40, e7]
    exact zWp_it (by omega) (zWp_nt (by omega) (N h c (frLo.rf h)))
  | n + 1, i, G, h, c, hi, hh, hl, N => by
    have hb := c.1.1.b
    have e7 : h 420 (h 403 12) = nHo σ := c.1.1.2.2.2.1.2.2.1
    have hH8 : nHo σ ≤ 8 := c.1.2.2.1.2.1.2.2.2.2.2.1
    have e1 := c.1.2.1.2.2.1 i hi (by omega)
    rw [show 8 * 0 + i = i by omega] at e1
    have h9 := c.1.2.2.2.2.2 i hi (by omega)
    rw [el_R_image_40, e7, e1, w32_i (x := i + 1) (by omega)]
    exact zWp_it (by omega) (zWp_it (by omega) (zWp_it (by omega) (zWp_bv (q_R_writes (b := st 9 i) (d := d) c (by omega) (by omega)) (fun v h1 u => q_Rimg40 n u.1 (by omega) (by omega) (by rw [pcB_l]; omega) (fun h' c' f => N h' c' (u.2.t f))))))
theorem q_Rimg133 {d : Nat} {σ st : zH} {D : zDR} {K : zKp} {Λ : zLw} {G h : zH} (c : RI σ st D K Λ G h) (hl : 0 ≤ G 0 1 ∧ G 0 1 < 259) : ∀ (n : Nat) {k x : Int}, 0 ≤ k → k + n = G 0 1 → (0 ≤ chk (G 2) n k x ∧ chk (G 2) n k x ≤ 252) → zWp (l_R_image_133 (d + 1) x k h) (fun v h' => v = .inl (G 0 1 + 1) ∧ RI σ st D K Λ (pcB G (chk (G 2) n k x)) h' ∧ frLo h h')
  | 0, k, x, hk, hh, hc => by
    have e3 : h 403 93 = G 0 1 := c.2.1.2.1.1
    rw [el_R_image_133, e3]
    have hc' : 0 ≤ x ∧ x ≤ 252 := hc
    refine zWp_nt (by omega) (zWp_bv (q_R_writes (b := x) (d := d) c (by omega) (by omega)) (fun v h1 u => zWp_s ⟨?_, u.1, u.2⟩))
    rw [u.1.2.1.2.1.1, pcB_l]
  | n + 1, k, x, hk, hh, hc => by
    have e3 : h 403 93 = G 0 1 := c.2.1.2.1.1
    have e4 : h 463 k = G 2 k := c.2.1.2.1.2 k hk (by omega)
    rw [el_R_image_133, e3, e4, w32_i (x := k + 1) (by omega)]
    exact zWp_it (by omega) (zWp_it (by omega) (q_Rimg133 c hl n (by omega) (by omega) hc))
theorem q_Rimg71 {d : Nat} {σ st : zH} {D : zDR} {K : zKp} {Λ : zLw} : ∀ (n : Nat) {i : Int} {G h : zH}, RI σ st D K Λ G h → 0 ≤ i → i + n = nC σ → 0 ≤ G 0 1 ∧ G 0 1 + 4 * n < 259 → PB G → zWp (l_R_image_71 (d + 1) i h) (fun v h' => v = .inl (pcC st n i G 0 1 + 1) ∧ RI σ st D K Λ (pcB (pcC st n i G) (chk (pcC st n i G 2) (pcC st n i G 0 1).toNat 0 83)) h' ∧ frLo h h')
  | 0, i, G, h, c, hi, hh, hl, p => by
    have hb := c.1.1.b
    rw [el_R_image_71]
    refine zWp_qi (q_R_cells c.1.2.2.1 c.1.1) (zWp_nt (by omega) ?_)
    exact q_Rimg133 c (by omega) (G 0 1).toNat (by decide) (by omega) (chk_in _ (fun j j1 j2 => p j j1 (by omega)) (by decide))
  | n + 1, i, G, h, c, hi, hh, hl, p => by
    have hn := c.1.2.2.1.n
    have w := c.1.2.2.1
    obtain ⟨w5, w5', w6, w6', w8, _⟩ := c.1.2.2.2.2.1 i hi (by omega)
    rw [el_R_image_71, w32_i (x := i + 1) (by omega)]
    refine zWp_qi (q_R_cells c.1.2.2.1 c.1.1) (zWp_it (by omega) (zWp_it (by omega) ?_))
    have e5 := (c.1.2.1.2.2.2 i hi (by omega)).1
    rw [show 60 * 0 + i = i by omega] at e5
    rw [e5, show (8 : Int) = ((8 : Nat) : Int) from rfl, zshr_g (a := st 5 i) (by unfold zI32; omega) (by decide), show ((2 ^ 8 : Nat) : Int) = 256 from rfl]
    refine zWp_bv (q_R_writes (b := st 5 i / 256) (d := d) c (by omega) (by omega)) (fun v h1 u1 => zWp_it (by omega) ?_)
    have e5 := (u1.1.1.2.1.2.2.2 i hi (by omega)).1
    rw [show 60 * 0 + i = i by omega] at e5
    rw [e5]
    refine zWp_bv (q_R_writes (b := st 5 i % 256) (d := d) u1.1 (by rw [pcB_l]; omega) rfl) (fun v h2 u2 => zWp_it (by omega) ?_)
    have e6 := (u2.1.1.2.1.2.2.2 i hi (by omega)).2.1
    rw [show 60 * 0 + i = i by omega] at e6
    rw [e6]
    refine zWp_bv (q_R_writes (b := st 6 i) (d := d) u2.1 (by rw [pcB_l, pcB_l]; omega) (by omega)) (fun v h3 u3 => zWp_it (by omega) ?_)
    have e8 := (u3.1.1.2.1.2.2.2 i hi (by omega)).2.2
    rw [show 60 * 0 + i = i by omega] at e8
    rw [e8]
    refine zWp_bv (q_R_writes (b := st 8 i) (d := d) u3.1 (by rw [pcB_l, pcB_l, pcB_l]; omega) (by omega)) (fun v h4 u4 => ?_)
    exact zWp_m (q_Rimg71 n u4.1 (by omega) (by omega) (by rw [pcB_l, pcB_l, pcB_l, pcB_l]; omega) ((((p.pc (b := st 5 i / 256) (by omega)).pc (b := st 5 i % 256) (by omega)).pc (b := st 6 i) (by omega)).pc (b := st 8 i) (by omega))) (fun v h' u => ⟨u.1, u.2.1, (((u1.2.t u2.2).t u3.2).t u4.2).t u.2.2⟩)
theorem pcS_wg {st : zH} : ∀ (n : Nat) {i : Int} {G : zH}, WG G → 0 ≤ G 0 1 ∧ G 0 1 + n ≤ 259 → WG (pcS st n i G)
  | 0, _, _, w, _ => w
  | n + 1, _, _, w, hl => pcS_wg n (w.pc (by omega)) (by rw [pcB_l]; omega)
theorem pcH_wg {st : zH} : ∀ (n : Nat) {i : Int} {G : zH}, WG G → 0 ≤ G 0 1 ∧ G 0 1 + n ≤ 259 → WG (pcH st n i G)
  | 0, _, _, w, _ => w
  | n + 1, _, _, w, hl => pcH_wg n (w.pc (by omega)) (by rw [pcB_l]; omega)
theorem pcC_wg {st : zH} : ∀ (n : Nat) {i : Int} {G : zH}, WG G → 0 ≤ G 0 1 ∧ G 0 1 + 4 * n ≤ 259 → WG (pcC st n i G)
  | 0, _, _, w, _ => w
  | n + 1, _, _, w, hl => pcC_wg n ((((w.pc (by omega)).pc (by rw [pcB_l]; omega)).pc (by rw [pcB_l, pcB_l]; omega)).pc (by rw [pcB_l, pcB_l, pcB_l]; omega)) (by rw [pcB_l, pcB_l, pcB_l, pcB_l]; omega)
theorem a_image {d : Nat} {h : zH} (i : INV h) : Alike (m_B_image (d + 2) h) (m_R_image (d + 2)) := by
  obtain ⟨σ, st, D, K, Λ, G, c, r, wk, wg⟩ := i
  have w := c.1.2.2.2.1
  have wt := c.1.2.2.2.2
  have hn := w.n
  have hS0 : 0 ≤ nS σ := w.2.1.2.2.1
  have hS10 : nS σ ≤ 10 := w.2.1.2.2.2.1
  have hH0 : 0 ≤ nHo σ := w.2.1.2.2.2.2.1
  have hH8 : nHo σ ≤ 8 := w.2.1.2.2.2.2.2.1
  have ez : pcZ G 0 1 = 0 := by unfold pcZ; rw [zset_e]
  obtain ⟨p1, l1⟩ := pcS_p (st := st) (nS σ).toNat (i := 0) (G := pcZ G) PB.pz (fun j j1 j2 => by have := (wt.1 j j1 (by omega)).1; omega)
  rw [ez] at l1
  obtain ⟨p2, l2⟩ := pcH_p (st := st) (nHo σ).toNat (i := 0) p1 (fun j j1 j2 => by have := wt.2.2 j j1 (by omega); omega)
  obtain ⟨p3, l3⟩ := pcC_p (st := st) (nC σ).toNat (i := 0) p2 (fun j j1 j2 => by have := wt.2.1 j j1 (by omega); unfold pcOk; omega)
  have g1 := pcS_wg (st := st) (nS σ).toNat (i := 0) (G := pcZ G) wg.pz (by omega)
  have g2 := pcH_wg (st := st) (nHo σ).toNat (i := 0) g1 (by omega)
  have g3 := pcC_wg (st := st) (nC σ).toNat (i := 0) g2 (by omega)
  refine alike (V := .inl (pcC st (nC σ).toNat 0 (pcH st (nHo σ).toNat 0 (pcS st (nS σ).toNat 0 (pcZ G))) 0 1 + 1)) (st := st) (Λ := Λ) (h := h) wk (g3.pc (b := chk (pcC st (nC σ).toNat 0 (pcH st (nHo σ).toNat 0 (pcS st (nS σ).toNat 0 (pcZ G))) 2) (pcC st (nC σ).toNat 0 (pcH st (nHo σ).toNat 0 (pcS st (nS σ).toNat 0 (pcZ G))) 0 1).toNat 0 83) (by omega)) (fun h' f => ?_) ?_
  · have r' := r.hi f
    rw [em_R_image]
    refine zWp_lt (fun h1 e1 => ?_)
    have r1 := r'.pz
    rw [← e1] at r1
    have f1 : frLo h' h1 := fun q hq => by rw [e1, zset_n (by omega)]
    refine q_Rimg7 (nS σ).toNat r1 (by decide) (by omega) (by omega) (fun h2 r2 f2 => q_Rimg40 (nHo σ).toNat r2 (by decide) (by omega) (by omega) (fun h3 r3 f3 => zWp_m (q_Rimg71 (nC σ).toNat r3 (by decide) (by omega) (by omega) p2) (fun v h4 u => ⟨u.1, u.2.1, ((f1.t f2).t f3).t u.2.2⟩)))
  · rw [em_B_image]
    refine zWp_lt (fun h1 e1 => ?_)
    have r1 := c.pz
    rw [← e1] at r1
    have f1 : fr403 h h1 := fun q hq => by rw [e1, zset_n (by omega)]
    refine q_img7 (nS σ).toNat r1 (by decide) (by omega) (by omega) (fun h2 r2 f2 => q_img61 (nHo σ).toNat r2 (by decide) (by omega) (by omega) (fun h3 r3 f3 => zWp_m (q_img98 (nC σ).toNat r3 (by decide) (by omega) (by omega) p2) (fun v h4 u => ⟨u.1, u.2.1, ((f1.t f2).t f3).t u.2.2⟩)))
