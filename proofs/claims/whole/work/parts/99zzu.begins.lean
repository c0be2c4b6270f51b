/-! what begins behind a slope, in the reference: the cells -/
theorem xy {σ : zH} {c : Int} (w : 1 ≤ σ 0 0) (hc : 0 ≤ c ∧ c < nC σ) : c = c / σ 0 0 * σ 0 0 + c % σ 0 0 ∧ (0 ≤ c % σ 0 0 ∧ c % σ 0 0 ≤ σ 0 0 - 1) ∧ (0 ≤ c / σ 0 0 ∧ c / σ 0 0 ≤ σ 0 1 - 1) ∧ (1 ≤ c / σ 0 0 ↔ σ 0 0 ≤ c) ∧ (c / σ 0 0 + 1 ≤ σ 0 1 - 1 ↔ c + σ 0 0 < nC σ) := by
  have e0 := Int.emod_nonneg c (show σ 0 0 ≠ 0 by omega)
  have e1 := Int.emod_lt_of_pos c (show 0 < σ 0 0 by omega)
  have d := Int.emod_add_mul_ediv c (σ 0 0)
  rw [Int.mul_comm] at d
  have y0 : 0 ≤ c / σ 0 0 := Int.ediv_nonneg hc.1 (by omega)
  have en : nC σ = σ 0 0 * σ 0 1 := rfl
  rw [Int.mul_comm] at en
  have mono : ∀ a b : Int, a ≤ b → a * σ 0 0 ≤ b * σ 0 0 := fun a b h => Int.mul_le_mul_of_nonneg_right h (by omega)
  generalize c / σ 0 0 = y at *
  generalize c % σ 0 0 = x at *
  have y1 : y ≤ σ 0 1 - 1 := by
    refine Classical.byContradiction fun z => ?_
    have := mono (σ 0 1) y (by omega)
    omega
  refine ⟨by omega, by omega, ⟨y0, y1⟩, ⟨fun z => ?_, fun z => ?_⟩, ⟨fun z => ?_, fun z => ?_⟩⟩
  · have := mono 1 y z
    omega
  · refine Classical.byContradiction fun v => ?_
    have : y = 0 := by omega
    rw [this] at d
    omega
  · have := mono (y + 2) (σ 0 1) (by omega)
    rw [Int.add_mul] at this
    omega
  · refine Classical.byContradiction fun v => ?_
    have := mono (σ 0 1) (y + 1) (by omega)
    rw [Int.add_mul] at this
    omega
theorem q_R_four {d : Nat} {σ h : zH} {c : Int} {f : zH → zR} {Q : zV → zH → Prop} (k : Bnk σ h) (w : 1 ≤ σ 0 0) (wb : (0 ≤ σ 0 0 ∧ σ 0 0 ≤ 10) ∧ (0 ≤ σ 0 1 ∧ σ 0 1 ≤ 10) ∧ nC σ ≤ 60) (hH : ∀ c, 0 ≤ c → c < 60 → 0 ≤ σ 1 c ∧ σ 1 c ≤ 999) (hc : 0 ≤ c ∧ c < nC σ) (nx : NX σ c c h) (K : ∀ h', NX σ c (nx4 σ c) h' → frNx c h h' → zWp (f h') Q) :
    zWp (zqv (m_R_considers (d + 2) c (c % σ 0 0) (c / σ 0 0 - 1) h) fun h5 => zqv (m_R_considers (d + 2) c (c % σ 0 0 + 1) (c / σ 0 0) h5) fun h6 => zqv (m_R_considers (d + 2) c (c % σ 0 0) (c / σ 0 0 + 1) h6) fun h7 => zqv (m_R_considers (d + 2) c (c % σ 0 0 - 1) (c / σ 0 0) h7) f) Q := by
  obtain ⟨p1, p2, p3, p4, p5⟩ := xy w hc
  have i := nx_in w hc
  have rt := rt_in (σ := σ) (c := c) w hc
  have bk : ∀ {h h'}, Bnk σ h → frNx c h h' → Bnk σ h' := fun b u => b.fr (fun r hr => u.1 r (by omega))
  have g1 : (c / σ 0 0 - 1) * σ 0 0 + c % σ 0 0 = c - σ 0 0 := by rw [Int.sub_mul]; omega
  have g3 : (c / σ 0 0 + 1) * σ 0 0 + c % σ 0 0 = c + σ 0 0 := by rw [Int.add_mul]; omega
  have P0 : 0 ≤ c / σ 0 0 * σ 0 0 := Int.mul_nonneg p3.1 (by omega)
  refine zWp_bv (q_R_cons k wb hH hc ⟨hc, Or.inl rfl⟩ nx (fun z => ?_)) (fun _ h5 u5 => ?_)
  · have := p4.1 (by omega)
    have e : (c / σ 0 0 - 1) * σ 0 0 = c / σ 0 0 * σ 0 0 - σ 0 0 := by rw [Int.sub_mul, Int.one_mul]
    have m := Int.mul_le_mul_of_nonneg_right (show 1 ≤ c / σ 0 0 by omega) (show 0 ≤ σ 0 0 by omega)
    rw [Int.one_mul] at m
    omega
  have n1 : lwN σ c ((c / σ 0 0 - 1) * σ 0 0 + c % σ 0 0) ((0 ≤ c % σ 0 0 ∧ c % σ 0 0 ≤ σ 0 0 - 1) ∧ (0 ≤ c / σ 0 0 - 1 ∧ c / σ 0 0 - 1 ≤ σ 0 1 - 1)) = nx1 σ c := lwN_c ⟨fun z => p4.1 (by omega), fun z => ⟨p2, by have := p4.2 z; omega, by omega⟩⟩ g1
  rw [n1] at u5
  have k5 := bk k u5.2
  refine zWp_bv (q_R_cons k5 wb hH hc i.1 u5.1 (fun z => ?_)) (fun _ h6 u6 => ?_)
  · have := rt (by omega)
    omega
  have n2 : lwN σ (nx1 σ c) (c / σ 0 0 * σ 0 0 + (c % σ 0 0 + 1)) ((0 ≤ c % σ 0 0 + 1 ∧ c % σ 0 0 + 1 ≤ σ 0 0 - 1) ∧ (0 ≤ c / σ 0 0 ∧ c / σ 0 0 ≤ σ 0 1 - 1)) = nx2 σ c := lwN_c ⟨fun z => by omega, fun z => ⟨by omega, p3⟩⟩ (by omega)
  rw [n2] at u6
  have k6 := bk k5 u6.2
  refine zWp_bv (q_R_cons k6 wb hH hc i.2.1 u6.1 (fun z => ?_)) (fun _ h7 u7 => ?_)
  · have := p5.1 (by omega)
    have e : (c / σ 0 0 + 1) * σ 0 0 = c / σ 0 0 * σ 0 0 + σ 0 0 := by rw [Int.add_mul, Int.one_mul]
    omega
  have n3 : lwN σ (nx2 σ c) ((c / σ 0 0 + 1) * σ 0 0 + c % σ 0 0) ((0 ≤ c % σ 0 0 ∧ c % σ 0 0 ≤ σ 0 0 - 1) ∧ (0 ≤ c / σ 0 0 + 1 ∧ c / σ 0 0 + 1 ≤ σ 0 1 - 1)) = nx3 σ c := lwN_c ⟨fun z => p5.1 (by omega), fun z => ⟨p2, by omega, by have := p5.2 z; omega⟩⟩ g3
  rw [n3] at u7
  have k7 := bk k6 u7.2
  refine zWp_bv (q_R_cons k7 wb hH hc i.2.2.1 u7.1 (fun z => by omega)) (fun _ h8 u8 => ?_)
  have n4 : lwN σ (nx3 σ c) (c / σ 0 0 * σ 0 0 + (c % σ 0 0 - 1)) ((0 ≤ c % σ 0 0 - 1 ∧ c % σ 0 0 - 1 ≤ σ 0 0 - 1) ∧ (0 ≤ c / σ 0 0 ∧ c / σ 0 0 ≤ σ 0 1 - 1)) = nx4 σ c := lwN_c ⟨fun z => by omega, fun z => ⟨by omega, p3⟩⟩ (by omega)
  rw [n4] at u8
  exact K h8 u8.1 (((u5.2.t u6.2).t u7.2).t u8.2)
def BrI (σ : zH) (c : Int) (h : zH) : Prop := Bnk σ h ∧ (∀ j, 0 ≤ j → j < 60 → h 411 (60 * h 403 12 + j) = σ 5 j ∧ h 409 (60 * h 403 12 + j) = σ 4 j) ∧ ∀ j, 0 ≤ j → j < c → NX σ j (nx4 σ j) h ∧ h 448 j = σ 5 j ∧ h 449 j = σ 4 j ∧ h 450 j = 0
def frBg (h h' : zH) : Prop := (∀ r, ¬ (448 ≤ r ∧ r ≤ 450 ∨ r = 454 ∨ r = 455) → h' r = h r) ∧ ∀ r i, 448 ≤ r → r ≤ 450 → ¬ (0 ≤ i ∧ i < 60) → h' r i = h r i
theorem frBg.rf (h : zH) : frBg h h := ⟨fun _ _ => rfl, fun _ _ _ _ _ => rfl⟩
theorem frBg.t {x y z : zH} (h1 : frBg x y) (h2 : frBg y z) : frBg x z := ⟨fun r hr => (h2.1 r hr).trans (h1.1 r hr), fun r i r1 r2 hi => (h2.2 r i r1 r2 hi).trans (h1.2 r i r1 r2 hi)⟩
theorem q_R_bg2 {d : Nat} {σ : zH} {Q : zV → zH → Prop} (w : 1 ≤ σ 0 0) (wb : (0 ≤ σ 0 0 ∧ σ 0 0 ≤ 10) ∧ (0 ≤ σ 0 1 ∧ σ 0 1 ≤ 10) ∧ nC σ ≤ 60) (hH : ∀ c, 0 ≤ c → c < 60 → 0 ≤ σ 1 c ∧ σ 1 c ≤ 999) : ∀ (f : Nat) (c : Int) (h : zH), c + f = nC σ → 0 ≤ c → BrI σ c h → (∀ h', BrI σ (nC σ) h' → frBg h h' → zWp (l_R_begins_139 (d + 2) 0 h') Q) → zWp (l_R_begins_2 (d + 2) c h) Q := by
  intro f
  induction f with
  | zero =>
    intro c h hc h0 b K
    have ec : c = nC σ := by omega
    obtain ⟨kb, ⟨k5, k6⟩, k8⟩ := b.1
    have en : σ 0 0 * σ 0 1 = nC σ := rfl
    rw [el_R_begins_2, em_R_cells, k5, k6, en, w32_i (x := nC σ) (by omega), if_pos (by omega), if_pos (by omega), zqi_s]
    rw [ec] at b
    exact zWp_nt (by omega) (K h b (frBg.rf h))
  | succ f ih =>
    intro c h hc h0 b K
    obtain ⟨kb, ⟨k5, k6⟩, k8⟩ := b.1
    have en : σ 0 0 * σ 0 1 = nC σ := rfl
    have cN : c < nC σ := by omega
    obtain ⟨p1, p2, p3, p4, p5⟩ := xy w ⟨h0, cN⟩
    have tm : Int.tmod c (σ 0 0) = c % σ 0 0 := Int.tmod_eq_emod_of_nonneg h0
    have td : Int.tdiv c (σ 0 0) = c / σ 0 0 := Int.tdiv_eq_ediv_of_nonneg h0
    rw [el_R_begins_2, em_R_cells, k5, k6, en, w32_i (x := nC σ) (by omega), if_pos (by omega), if_pos (by omega), zqi_s, k5, tm, td, w32_i (x := c / σ 0 0) (by omega), w32_i (x := c / σ 0 0 - 1) (by omega), w32_i (x := c % σ 0 0 + 1) (by omega), w32_i (x := c / σ 0 0 + 1) (by omega), w32_i (x := c % σ 0 0 - 1) (by omega)]
    refine zWp_it cN (zWp_it (by omega) (zWp_dz (by omega) (zWp_it (by omega) (zWp_dz (by omega) (zWp_it (by omega) (zWp_lt fun h3 e3 => zWp_it (by omega) (zWp_lt fun h4 e4 => ?_)))))))
    have r4 : ∀ r, ¬ (r = 454 ∨ r = 455) → h4 r = h r := fun r hr => by rw [e4, zset_n (by omega), e3, zset_n (by omega)]
    have x4 : ∀ r i, r = 454 ∨ r = 455 → i ≠ c → h4 r i = h r i := fun r i _ hi => by rw [e4, zset_2 (fun z => hi z.2), e3, zset_2 (fun z => hi z.2)]
    have nx : NX σ c c h4 := by
      unfold NX
      rw [if_pos rfl]
      exact ⟨by rw [e4, zset_o (by decide), e3, zset_e], by rw [e4, zset_e]; omega⟩
    refine q_R_four (d := d) (b.1.fr (fun r hr => r4 r (by omega))) w wb hH ⟨h0, cN⟩ nx (fun h8 u8 f8 => ?_)
    have r8 : ∀ r, ¬ (r = 454 ∨ r = 455) → h8 r = h r := fun r hr => by rw [f8.1 r hr, r4 r hr]
    have told := b.2.1 c h0 (by omega)
    have s8 : h8 403 12 = h 403 12 := by rw [r8 403 (by decide)]
    rw [s8, w32_i (x := 60 * h 403 12) (by omega), w32_i (x := 60 * h 403 12 + c) (by omega), r8 411 (by decide), told.1]
    refine zWp_it (by omega) (zWp_it (by omega) (zWp_lt fun h9 e9 => ?_))
    have s9 : h9 403 12 = h 403 12 := by rw [e9, zset_o (by decide)]; exact s8
    have t9 : h9 409 = h 409 := by rw [e9, zset_n (by decide), r8 409 (by decide)]
    rw [s9, w32_i (x := 60 * h 403 12) (by omega), w32_i (x := 60 * h 403 12 + c) (by omega), t9, told.2]
    refine zWp_it (by omega) (zWp_it (by omega) (zWp_lt fun h10 e10 => zWp_it (by omega) (zWp_lt fun h11 e11 => ?_)))
    rw [w32_i (x := c + 1) (by omega)]
    have r11 : ∀ r, ¬ (448 ≤ r ∧ r ≤ 450 ∨ r = 454 ∨ r = 455) → h11 r = h r := fun r hr => by rw [e11, zset_n (by omega), e10, zset_n (by omega), e9, zset_n (by omega), r8 r (by omega)]
    have r45 : ∀ r, r = 454 ∨ r = 455 → h11 r = h8 r := fun r hr => by rw [e11, zset_n (by omega), e10, zset_n (by omega), e9, zset_n (by omega)]
    have x11 : ∀ r i, 448 ≤ r → r ≤ 450 → i ≠ c → h11 r i = h r i := fun r i r1 r2 hi => by rw [e11, zset_2 (fun z => hi z.2), e10, zset_2 (fun z => hi z.2), e9, zset_2 (fun z => hi z.2), r8 r (by omega)]
    have b11 : BrI σ (c + 1) h11 := by
      refine ⟨b.1.fr (fun r hr => r11 r (by omega)), ?_, fun j j1 j2 => ?_⟩
      · rw [r11 411 (by decide), r11 409 (by decide), r11 403 (by decide)]
        exact b.2.1
      · by_cases z : j = c
        · rw [z]
          unfold NX
          rw [r45 454 (Or.inl rfl), r45 455 (Or.inr rfl)]
          exact ⟨u8, by rw [e11, zset_o (by decide), e10, zset_o (by decide), e9, zset_e], by rw [e11, zset_o (by decide), e10, zset_e], by rw [e11, zset_e]⟩
        · have o := b.2.2 j j1 (by omega)
          unfold NX at o ⊢
          rw [r45 454 (Or.inl rfl), r45 455 (Or.inr rfl), f8.2 454 j (Or.inl rfl) z, f8.2 455 j (Or.inr rfl) z, x4 454 j (Or.inl rfl) z, x4 455 j (Or.inr rfl) z, x11 448 j (by decide) (by decide) z, x11 449 j (by decide) (by decide) z, x11 450 j (by decide) (by decide) z]
          exact o
    exact ih (c + 1) h11 (by omega) (by omega) b11 (fun h' q1 q2 => K h' q1 (frBg.t ⟨r11, fun r i r1 r2 hi => x11 r i r1 r2 (by omega)⟩ q2))
