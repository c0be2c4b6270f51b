/-! dowry: both alike -/
def pwA (S : Int) : Nat → Int → Int
  | 0, x => x
  | n + 1, x => pwA S n (x * S)
theorem pwA_m {S : Int} : ∀ (n : Nat) (x : Int), pwA S n x = x * pwA S n 1
  | 0, x => by show x = x * 1; omega
  | n + 1, x => by
    show pwA S n (x * S) = x * pwA S n (1 * S)
    rw [pwA_m n (x * S), pwA_m n (1 * S), Int.one_mul, Int.mul_assoc]
theorem pwA_s {S : Int} {n : Nat} : pwA S (n + 1) 1 = S * pwA S n 1 := by
  show pwA S n (1 * S) = _
  rw [pwA_m, Int.one_mul]
theorem pwA_b {S : Int} (h : 0 ≤ S ∧ S ≤ 594) : ∀ k : Nat, 0 ≤ pwA S k 1 ∧ pwA S k 1 ≤ ((594 ^ k : Nat) : Int)
  | 0 => by show 0 ≤ (1 : Int) ∧ (1 : Int) ≤ ((594 ^ 0 : Nat) : Int); decide
  | k + 1 => by
    have ih := pwA_b h k
    rw [pwA_s]
    refine ⟨Int.mul_nonneg h.1 ih.1, ?_⟩
    rw [Nat.pow_succ, Nat.mul_comm, Int.natCast_mul]
    exact Int.mul_le_mul (by have := h.2; omega) ih.2 ih.1 (by decide)
theorem pwA_p {S : Int} (h : 1 ≤ S) : ∀ k : Nat, 1 ≤ pwA S k 1
  | 0 => by show (1 : Int) ≤ 1; decide
  | k + 1 => by
    have ih := pwA_p h k
    rw [pwA_s]
    have := Int.mul_le_mul h ih (by decide) (by omega)
    omega
theorem pw594 {k : Nat} (h : k ≤ 3) : 594 ^ k ≤ 209584584 := Nat.le_trans (Nat.pow_le_pow_right (by decide) h) (by decide)
theorem mulb {x S M : Int} (hx : 0 ≤ x ∧ x ≤ M) (hS : 0 ≤ S ∧ S ≤ 594) : 0 ≤ x * S ∧ x * S ≤ M * 594 := ⟨Int.mul_nonneg hx.1 hS.1, Int.mul_le_mul hx.2 hS.2 hS.1 (by omega)⟩
theorem isum_mono {f g : Int → Int} : ∀ (n : Nat) (i : Int), (∀ j, i ≤ j → j < i + n → f j ≤ g j) → isum f n i ≤ isum g n i
  | 0, _, _ => Int.le_refl _
  | n + 1, i, h => by
    have a := isum_mono n (i + 1) (fun j h1 h2 => h j (by omega) (by omega))
    have b := h i (by omega) (by omega)
    show f i + isum f n (i + 1) ≤ g i + isum g n (i + 1)
    omega
theorem isum_mulr {f : Int → Int} {C : Int} : ∀ (n : Nat) (i : Int), isum (fun j => f j * C) n i = isum f n i * C
  | 0, _ => by show (0 : Int) = 0 * C; rw [Int.zero_mul]
  | n + 1, i => by
    show f i * C + isum (fun j => f j * C) n (i + 1) = (f i + isum f n (i + 1)) * C
    rw [isum_mulr n (i + 1), Int.add_mul]
theorem spr_w {σ st : zH} (w : WS σ) (wt : WT σ st) (p : Int) : WT σ (spr σ p st).1 := by
  have hS0 : 0 ≤ nS σ := w.2.1.2.2.1
  exact (sprF_ok w (nS σ).toNat wt (by decide) (by omega)).1
def hnd (σ : zH) (s o : Int) (k : Nat) (st : zH) : Int := if st 1 s ≠ -1 ∧ σ 6 (st 1 s) = o then σ 13 s * pwA (oddsA σ) k 1 else 0
def wor (σ : zH) (s o : Int) : Nat → zH → Int
  | 0, st => if st 1 s ≠ -1 ∧ σ 6 (st 1 s) = o then σ 13 s * pwA (oddsA σ) 0 1 else 0
  | k + 1, st => if st 1 s ≠ -1 ∧ σ 6 (st 1 s) = o then σ 13 s * pwA (oddsA σ) (k + 1) 1 else isum (fun t => σ 19 t * wor σ s o k (spr σ (σ 18 t) st).1) (nT σ).toNat 0
def wtS (σ : zH) (s o : Int) (k : Nat) (st : zH) : Int := isum (fun t => σ 19 t * wor σ s o k (spr σ (σ 18 t) st).1) (nT σ).toNat 0
theorem wor_0 {σ : zH} {s o : Int} {st : zH} : wor σ s o 0 st = hnd σ s o 0 st := rfl
theorem wor_s {σ : zH} {s o : Int} {k : Nat} {st : zH} : wor σ s o (k + 1) st = if st 1 s ≠ -1 ∧ σ 6 (st 1 s) = o then σ 13 s * pwA (oddsA σ) (k + 1) 1 else wtS σ s o k st := rfl
theorem wei_b {σ : zH} (w : WS σ) {s : Int} (hs : 0 ≤ s ∧ s < nS σ) (k : Nat) : 0 ≤ σ 13 s * pwA (oddsA σ) k 1 ∧ σ 13 s * pwA (oddsA σ) k 1 ≤ 999 * ((594 ^ k : Nat) : Int) := by
  have hW := w.2.2.2.2.1 s hs.1 hs.2
  have hP := pwA_b (odds_b w) k
  exact ⟨Int.mul_nonneg (by omega) hP.1, Int.mul_le_mul hW.2.1 hP.2 hP.1 (by decide)⟩
theorem wtS_of {σ : zH} (w : WS σ) {s o : Int} {k : Nat} {st : zH} (hb : ∀ st, 0 ≤ wor σ s o k st ∧ wor σ s o k st ≤ σ 13 s * pwA (oddsA σ) k 1) : 0 ≤ wtS σ s o k st ∧ wtS σ s o k st ≤ σ 13 s * pwA (oddsA σ) (k + 1) 1 := by
  have hT0 : 0 ≤ nT σ := w.2.1.2.2.2.2.2.2.1
  unfold wtS
  constructor
  · have := isum_mono (f := fun _ => 0) (g := fun t => σ 19 t * wor σ s o k (spr σ (σ 18 t) st).1) (nT σ).toNat 0 (fun j j1 j2 => Int.mul_nonneg (by have := w.2.2.2.2.2.2.1 j j1 (by omega); omega) (hb _).1)
    rw [isum_0] at this
    exact this
  · refine Int.le_trans (isum_mono (g := fun t => σ 19 t * (σ 13 s * pwA (oddsA σ) k 1)) (nT σ).toNat 0 (fun j j1 j2 => Int.mul_le_mul_of_nonneg_left (hb _).2 (by have := w.2.2.2.2.2.2.1 j j1 (by omega); omega))) ?_
    rw [isum_mulr, pwA_s, show isum (σ 19) (nT σ).toNat 0 = oddsA σ from rfl, Int.mul_left_comm]
    exact Int.le_refl _
theorem wor_b {σ : zH} (w : WS σ) {s o : Int} (hs : 0 ≤ s ∧ s < nS σ) : ∀ (k : Nat) (st : zH), 0 ≤ wor σ s o k st ∧ wor σ s o k st ≤ σ 13 s * pwA (oddsA σ) k 1
  | 0, st => by
    have := wei_b w hs 0
    rw [wor_0]
    unfold hnd
    split
    · exact ⟨this.1, Int.le_refl _⟩
    · exact ⟨Int.le_refl _, this.1⟩
  | k + 1, st => by
    have := wei_b w hs (k + 1)
    rw [wor_s]
    split
    · exact ⟨this.1, Int.le_refl _⟩
    · exact wtS_of w (wor_b w hs k)
theorem wor_m {σ : zH} (w : WS σ) {s o : Int} (hs : 0 ≤ s ∧ s < nS σ) {k : Nat} {st : zH} : (if wtS σ s o k st < hnd σ s o (k + 1) st then hnd σ s o (k + 1) st else wtS σ s o k st) = wor σ s o (k + 1) st := by
  have b := wtS_of w (st := st) (wor_b w (o := o) hs k)
  rw [wor_s]
  unfold hnd
  by_cases c : st 1 s ≠ -1 ∧ σ 6 (st 1 s) = o
  · rw [if_pos c, if_pos c]
    split <;> omega
  · rw [if_neg c, if_neg c, if_neg (by omega)]
theorem q_pow5 {d N : Nat} {σ : zH} {a : Int} {h : zH} (ea : h 0 7 = a) (g : CS σ a h) (w : WS σ) (hN : N ≤ 3) : ∀ (n : Nat) {k : Nat} {x : Int}, k + n = N → 0 ≤ x ∧ x ≤ ((594 ^ k : Nat) : Int) → l_B_powerOfOdds_5 (d + 1) N x k h = some (.inr (.inl (pwA (oddsA σ) n x)), h)
  | 0, k, x, hk, hx => by rw [el_B_powerOfOdds_5, zit_f (by omega)]; rfl
  | n + 1, k, x, hk, hx => by
    have ha := g.a
    have b := mulb hx (odds_b w)
    have p2 := pw594 (k := k) (by omega)
    rw [el_B_powerOfOdds_5, zit_t (by omega), ea, zpo_t (by omega), q_oddsOfAll g w, zqi_s, w64_i (x := x * oddsA σ) (by omega), w32_i (x := (k : Int) + 1) (by omega), show (k : Int) + 1 = ((k + 1 : Nat) : Int) from rfl, q_pow5 ea g w hN n (by omega) ⟨b.1, by rw [Nat.pow_succ, Int.natCast_mul]; exact b.2⟩]
    rfl
theorem q_pow {d : Nat} {σ : zH} {a : Int} {h : zH} (ea : h 0 7 = a) (g : CS σ a h) (w : WS σ) (k : Nat) (hk : k ≤ 3) : m_B_powerOfOdds (d + 2) k h = some (.inr (.inl (pwA (oddsA σ) k 1)), h) := by
  rw [em_B_powerOfOdds, show (0 : Int) = ((0 : Nat) : Int) from rfl, q_pow5 ea g w hk k (by omega) (by decide)]
theorem q_Rpow5 {d N : Nat} {S : Int} {h : zH} (hS : 0 ≤ S ∧ S ≤ 594) (hN : N ≤ 3) : ∀ (n : Nat) {k : Nat} {x : Int}, k + n = N → 0 ≤ x ∧ x ≤ ((594 ^ k : Nat) : Int) → l_R_power_5 d S N x k h = some (.inr (.inl (pwA S n x)), h)
  | 0, k, x, hk, hx => by rw [el_R_power_5, zit_f (by omega)]; rfl
  | n + 1, k, x, hk, hx => by
    have b := mulb hx hS
    have p2 := pw594 (k := k) (by omega)
    rw [el_R_power_5, zit_t (by omega), w64_i (x := x * S) (by omega), w32_i (x := (k : Int) + 1) (by omega), show (k : Int) + 1 = ((k + 1 : Nat) : Int) from rfl, q_Rpow5 hS hN n (by omega) ⟨b.1, by rw [Nat.pow_succ, Int.natCast_mul]; exact b.2⟩]
    rfl
theorem q_Rpow {d : Nat} {S : Int} {h : zH} (hS : 0 ≤ S ∧ S ≤ 594) (k : Nat) (hk : k ≤ 3) : m_R_power (d + 1) S k h = some (.inr (.inl (pwA S k 1)), h) := by
  rw [em_R_power, show (0 : Int) = ((0 : Nat) : Int) from rfl, q_Rpow5 hS hk k (by omega) (by decide)]
/-- the class: places to try in -/
def frW (k : Int) (h h' : zH) : Prop := ∀ r, ¬ (379 ≤ r ∧ r < 379 + 8 * k ∨ 328 ≤ r ∧ r < 331) → h' r = h r
theorem frW.rf {k : Int} (h : zH) : frW k h h := fun _ _ => rfl
theorem frW.t {k j : Int} {a b c : zH} (hj : j ≤ k) (h1 : frW k a b) (h2 : frW j b c) : frW k a c := fun r hr => (h2 r (by omega)).trans (h1 r hr)
def DW (σ : zH) (a : Int) (h : zH) : Prop := h 0 7 = a ∧ CS σ a h ∧ WS σ ∧ ∀ i, 0 ≤ i → i < 3 → h 83 i = 379 + 8 * i
theorem DW.fr {σ : zH} {a k : Int} {h h' : zH} (c : DW σ a h) (f : frW k h h') : DW σ a h' := by
  obtain ⟨c1, c2, c3, c4⟩ := c
  have ha := c2.a
  exact ⟨by rw [f 0 (by omega)]; exact c1, c2.fr (fun r r1 r2 => f r (by omega)), c3, fun i i1 i2 => by rw [f 83 (by omega)]; exact c4 i i1 i2⟩
theorem own_on {σ st : zH} (wt : WT σ st) {s o : Int} (hs : 0 ≤ s ∧ s < nS σ) (ho : 0 ≤ o) : (if 0 ≤ st 1 s ∧ st 1 s < nC σ then σ 6 (st 1 s) else -1) = o ↔ (st 1 s ≠ -1 ∧ σ 6 (st 1 s) = o) := by
  rcases (wt.1 s hs.1 hs.2).1 with q | q
  · rw [if_neg (by omega)]
    constructor
    · intro z; omega
    · intro z; exact absurd q z.1
  · rw [if_pos q]
    constructor
    · intro z; exact ⟨by omega, z⟩
    · intro z; exact z.2
theorem q_ww {d : Nat} {σ : zH} {a s o : Int} (hs : 0 ≤ s ∧ s < nS σ) (ho : 0 ≤ o) : ∀ (k : Nat) {T : Int} {st h : zH}, k ≤ 3 → DW σ a h → CT σ st T h → WT σ st → T + 8 ≤ 328 ∨ 379 + 8 * (k : Int) ≤ T → zWp (m_B_worthWithin (d + k + 7) T s o k h) (fun v h' => v = .inr (.inl (wor σ s o k st)) ∧ frW k h h') := by
  intro k
  induction k with
  | zero =>
    intro T st h hk dw t wt hT
    obtain ⟨ea, g, w, e83⟩ := dw
    have ha := g.a
    have hTl := t.1.low
    have hS10 : nS σ ≤ 10 := w.2.1.2.2.2.1
    have e1 : h (T + 1) s = st 1 s := t.pl (by omega)
    have e13 : h (a + 13) s = σ 13 s := g.g 13 (by decide)
    have hb := wei_b w hs 0
    rw [em_B_worthWithin, e1, ea]
    refine zWp_po (by omega) (zWp_po (by omega) (zWp_it (by omega) (zWp_po (by omega) (zWp_qi (q_ownerOf g w) ?_))))
    rw [ea, e13]
    by_cases c : st 1 s ≠ -1 ∧ σ 6 (st 1 s) = o
    · refine zWp_it ((own_on wt hs ho).2 c) (zWp_po (by omega) (zWp_po (by omega) (zWp_it (by omega) (zWp_ql (q_pow (d := d + 4) ea g w 0 (by decide)) (zWp_s ⟨?_, frW.rf h⟩)))))
      have p2 := pw594 (k := 0) (by decide)
      rw [w64_i (by omega), wor_0]
      unfold hnd
      rw [if_pos c]
    · refine zWp_nt (fun z => c ((own_on wt hs ho).1 z)) (zWp_qi q_between (zWp_it (by rfl) (zWp_s ⟨?_, frW.rf h⟩)))
      rw [wor_0]
      unfold hnd
      rw [if_neg c]
  | succ k ih =>
    intro T st h hk dw t wt hT
    have dw0 := dw
    obtain ⟨ea, g, w, e83⟩ := dw
    have ha := g.a
    have hTl := t.1.low
    have hS10 : nS σ ≤ 10 := w.2.1.2.2.2.1
    have hT6 : nT σ ≤ 6 := w.2.1.2.2.2.2.2.2.2.1
    have hT0 : 0 ≤ nT σ := w.2.1.2.2.2.2.2.2.1
    have e1 : h (T + 1) s = st 1 s := t.pl (by omega)
    have e13 : h (a + 13) s = σ 13 s := g.g 13 (by decide)
    have hb := wei_b w hs (k + 1)
    have p2 := pw594 (k := k + 1) (by omega)
    rw [em_B_worthWithin, e1, ea]
    refine zWp_po (by omega) (zWp_po (by omega) (zWp_it (by omega) (zWp_po (by omega) (zWp_qi (q_ownerOf g w) ?_))))
    rw [ea, e13]
    by_cases c : st 1 s ≠ -1 ∧ σ 6 (st 1 s) = o
    · refine zWp_it ((own_on wt hs ho).2 c) (zWp_po (by omega) (zWp_po (by omega) (zWp_it (by omega) (zWp_ql (q_pow (d := d + k + 5) ea g w (k + 1) (by omega)) (zWp_s ⟨?_, frW.rf h⟩)))))
      rw [w64_i (by omega), wor_s, if_pos c]
    refine zWp_nt (fun z => c ((own_on wt hs ho).1 z)) (zWp_qi q_between (zWp_nt (by rw [if_pos (by omega)]; decide) ?_))
    rw [show w32 (((k + 1 : Nat) : Int) - 1) = (k : Int) by rw [w32_i (by omega)]; omega, e83 k (by omega) (by omega)]
    refine zWp_it (by omega) ?_
    rw [wor_s, if_neg c]
    unfold wtS
    have lp : ∀ (n : Nat) {i x : Int} {h1 : zH}, 0 ≤ i → i + n = nT σ → 0 ≤ x ∧ x ≤ 40000000000 * i → DW σ a h1 → CT σ st T h1 → zWp (l_B_worthWithin_68 (d + k + 7) T s o ((k + 1 : Nat) : Int) (379 + 8 * (k : Int)) x i h1) (fun v h' => v = .inr (.inl (x + isum (fun t => σ 19 t * wor σ s o k (spr σ (σ 18 t) st).1) n i)) ∧ frW ((k + 1 : Nat) : Int) h1 h') := by
      intro n
      induction n with
      | zero =>
        intro i x h1 hi hn hx dw1 t1
        have e13 : h1 (a + 8) 13 = nT σ := dw1.2.1.g 8 (by decide)
        rw [el_B_worthWithin_68, dw1.1, e13]
        exact zWp_po (by omega) (zWp_po (by omega) (zWp_it (by decide) (zWp_nt (by omega) (zWp_s ⟨by show _ = Sum.inr (Sum.inl (x + 0)); rw [Int.add_zero], frW.rf h1⟩))))
      | succ n ih2 =>
        intro i x h1 hi hn hx dw1 t1
        have e13 : h1 (a + 8) 13 = nT σ := dw1.2.1.g 8 (by decide)
        have hth := w.2.2.2.2.2.2.1 i hi (by omega)
        rw [el_B_worthWithin_68, dw1.1, e13]
        refine zWp_po (by omega) (zWp_po (by omega) (zWp_it (by decide) (zWp_it (by omega) (zWp_nt (by omega) (zWp_po (by omega) ?_)))))
        have sU : SA (379 + 8 * (k : Int)) := by unfold SA; omega
        refine zWp_bv (q_copyT (d := d + k + 6) w sU (by omega) t1) (fun _ h2 u2 => ?_)
        obtain ⟨t2, _, f2⟩ := u2
        have w2 : frW ((k + 1 : Nat) : Int) h1 h2 := fun r hr => f2 r (by omega)
        have dw2 := dw1.fr w2
        have e18 : h2 (a + 18) i = σ 18 i := dw2.2.1.g 18 (by decide)
        rw [dw2.1, e18]
        refine zWp_po (by omega) (zWp_po (by omega) (zWp_it (by omega) (zWp_bv (q_pushAll (d := d + k + 2) w ma328 dw2.2.1 t2 wt (by omega)) (fun _ h3 u3 => ?_))))
        obtain ⟨pi, f3⟩ := u3
        have w3 : frW ((k + 1 : Nat) : Int) h2 h3 := fun r hr => f3 r (by omega)
        have dw3 := dw2.fr w3
        have e19 : h3 (a + 19) i = σ 19 i := dw3.2.1.g 19 (by decide)
        rw [dw3.1, e19, show w32 (((k + 1 : Nat) : Int) - 1) = (k : Int) by rw [w32_i (by omega)]; omega, w32_i (x := i + 1) (by omega)]
        refine zWp_po (by omega) (zWp_po (by omega) (zWp_it (by omega) ?_))
        obtain ⟨v4, h4, e4, rfl, f4⟩ := ih (T := 379 + 8 * (k : Int)) (by omega) dw3 pi.2.1 pi.2.2.1 (by omega)
        refine zWp_ql e4 ?_
        have w4 : frW ((k + 1 : Nat) : Int) h3 h4 := fun r hr => f4 r (by omega)
        have bw := wor_b w (o := o) hs k (spr σ (σ 18 i) st).1
        have bw2 := wei_b w hs k
        have pk := pw594 (k := k) (by omega)
        have pk2 : 594 ^ k ≤ 352836 := Nat.le_trans (Nat.pow_le_pow_right (by decide) (show k ≤ 2 by omega)) (by decide)
        have b5 : 0 ≤ σ 19 i * wor σ s o k (spr σ (σ 18 i) st).1 ∧ σ 19 i * wor σ s o k (spr σ (σ 18 i) st).1 ≤ 99 * 352483164 := by
          refine ⟨Int.mul_nonneg (by omega) bw.1, Int.mul_le_mul hth.2.2.2 (by omega) bw.1 (by decide)⟩
        rw [w64_i (x := σ 19 i * wor σ s o k (spr σ (σ 18 i) st).1) (by omega), w64_i (x := x + σ 19 i * wor σ s o k (spr σ (σ 18 i) st).1) (by omega)]
        have t4 : CT σ st T h4 := t1.fr (fun r r1 r2 => by rw [f4 r (by omega), f3 r (by omega), f2 r (by omega)])
        refine zWp_m (ih2 (by omega) (by omega) (by omega) (dw3.fr w4) t4) (fun v h5 u => ⟨?_, ((w2.t (Int.le_refl _) w3).t (Int.le_refl _) w4).t (Int.le_refl _) u.2⟩)
        rw [u.1]
        show _ = Sum.inr (Sum.inl (x + (σ 19 i * wor σ s o k (spr σ (σ 18 i) st).1 + isum _ n (i + 1))))
        rw [Int.add_assoc]
    exact zWp_m (lp (nT σ).toNat (by decide) (by omega) (by omega) dw0 t) (fun v h' u => ⟨by rw [u.1, Int.zero_add], u.2⟩)

/-- the reference -/
def DR9 (σ : zH) (s o : Int) (h : zH) : Prop := RS σ h ∧ h 403 90 = s ∧ h 403 91 = o
theorem DR9.q {σ : zH} {s o : Int} {h h' : zH} (c : DR9 σ s o h) (f : frQR h h') : DR9 σ s o h' := ⟨c.1.q f, by rw [f.2.1 90 (by decide)]; exact c.2.1, by rw [f.2.1 91 (by decide)]; exact c.2.2⟩
theorem q_hand {d : Nat} {σ st : zH} {s o v : Int} {h : zH} (c : DR9 σ s o h) (w : WS σ) (wt : WT σ st) (t : RT σ st v h) (hs : 0 ≤ s ∧ s < nS σ) (k : Nat) (hk : k ≤ 3) : m_R_handed (d + 3) v k h = some (.inr (.inl (hnd σ s o k st)), h) := by
  have hb := c.1.b
  have hS10 : nS σ ≤ 10 := w.2.1.2.2.2.1
  rw [em_R_handed, c.2.1, c.2.2, q_R_isOn w c.1 t wt hs, zqi_s]
  unfold hnd
  by_cases e : st 1 s ≠ -1 ∧ σ 6 (st 1 s) = o
  · have b := wei_b w hs k
    have p2 := pw594 hk
    rw [if_pos e, if_pos e, zit_f (by decide), c.2.1, ixw (by omega) (by omega), zit_t (by omega), q_R_oddsAll c.1 w, zqi_s, q_Rpow (odds_b w) k hk, zql_s, (c.1.2.2.2.2.1 s hs.1 hs.2).1, w64_i (by omega)]
  · rw [if_neg e, if_neg e, zit_t rfl]
theorem q_Rmore {d : Nat} {x y : Int} {h : zH} : m_R_more (d + 1) x y h = some (.inr (.inl (if y < x then x else y)), h) := by
  rw [em_R_more]
  by_cases e : y < x
  · rw [if_pos e, zit_t (by rw [zlc_p]; exact e)]
  · rw [if_neg e, zit_f (by rw [zlc_p]; exact e)]
def frV (σ : zH) (v : Int) (h h' : zH) : Prop := frQR h h' ∧ ∀ u st', u ≤ v → RT σ st' u h → RT σ st' u h'
theorem frV.rf {σ : zH} {v : Int} (h : zH) : frV σ v h h := ⟨frQR.rf h, fun _ _ _ r => r⟩
theorem frV.t {σ : zH} {v u : Int} {a b c : zH} (hv : v ≤ u) (h1 : frV σ v a b) (h2 : frV σ u b c) : frV σ v a c := ⟨h1.1.t h2.1, fun x st' hx r => h2.2 x st' (by omega) (h1.2 x st' hx r)⟩

theorem q_wOne {d : Nat} {σ st : zH} {s o v : Int} (w : WS σ) (wt : WT σ st) (hs : 0 ≤ s ∧ s < nS σ) (hv : 0 ≤ v ∧ v ≤ 3) : ∀ (n : Nat) {i x : Int} {h : zH}, 0 ≤ i → i + n = nT σ → 0 ≤ x ∧ x ≤ 40000000000 * i → DR9 σ s o h → RT σ st v h → zWp (l_R_waitsOne_5 (d + 6) v x i h) (fun a h' => a = .inr (.inl (x + isum (fun t => σ 19 t * wor σ s o 0 (spr σ (σ 18 t) st).1) n i)) ∧ frV σ v h h')
  | 0, i, x, h, hi, hn, hx, c, t => by
    have hb := c.1.b
    rw [el_R_waitsOne_5, c.1.2.2.2.1.2.2.2.1]
    exact zWp_it (by omega) (zWp_nt (by omega) (zWp_s ⟨by show _ = Sum.inr (Sum.inl (x + 0)); rw [Int.add_zero], frV.rf h⟩))
  | n + 1, i, x, h, hi, hn, hx, c, t => by
    have hb := c.1.b
    have hT6 : nT σ ≤ 6 := w.2.1.2.2.2.2.2.2.2.1
    have hT0 : 0 ≤ nT σ := w.2.1.2.2.2.2.2.2.1
    have hth := w.2.2.2.2.2.2.1 i hi (by omega)
    rw [el_R_waitsOne_5, c.1.2.2.2.1.2.2.2.1, w32_i (x := v + 1) (by omega), w32_i (x := i + 1) (by omega)]
    refine zWp_it (by omega) (zWp_it (by omega) (zWp_bv (q_R_thaws (d := d + 0) (t := v + 1) (f := v) w c.1 t wt (by omega) (by omega) (by omega) (by omega)) (fun _ h1 u1 => ?_)))
    obtain ⟨sp, f1, o1⟩ := u1
    have v1 : frV σ v h h1 := ⟨f1, fun u st' hu r => o1 u st' (by omega) r⟩
    have c1 := c.q f1
    have hb1 := c1.1.b
    have t1 := sp.1
    have wt1 := spr_w w wt (σ 18 i)
    rw [ixw (by omega) (by omega), (c1.1.2.2.2.2.2.2.1 i hi (by omega)).2]
    have bw := wor_b w (o := o) hs 0 (spr σ (σ 18 i) st).1
    have bw2 := wei_b w hs 0
    have b5 : 0 ≤ σ 19 i * wor σ s o 0 (spr σ (σ 18 i) st).1 ∧ σ 19 i * wor σ s o 0 (spr σ (σ 18 i) st).1 ≤ 99 * 352483164 := by
      refine ⟨Int.mul_nonneg (by omega) bw.1, Int.mul_le_mul hth.2.2.2 ?_ bw.1 (by decide)⟩
      have pk : ((594 ^ 0 : Nat) : Int) ≤ 352836 := by decide
      omega
    have fin : ∀ h2, frV σ v h h2 → DR9 σ s o h2 → zWp (l_R_waitsOne_5 (d + 6) v (w64 (x + w64 (σ 19 i * wor σ s o 0 (spr σ (σ 18 i) st).1))) (i + 1) h2) (fun a h' => a = .inr (.inl (x + isum (fun t => σ 19 t * wor σ s o 0 (spr σ (σ 18 t) st).1) (n + 1) i)) ∧ frV σ v h h') := by
      intro h2 v2 c2
      rw [w64_i (x := σ 19 i * wor σ s o 0 (spr σ (σ 18 i) st).1) (by omega), w64_i (x := x + σ 19 i * wor σ s o 0 (spr σ (σ 18 i) st).1) (by omega)]
      refine zWp_m (q_wOne w wt hs hv n (by omega) (by omega) (by omega) c2 (v2.2 v st (Int.le_refl _) t)) (fun a h' u => ⟨?_, v2.t (Int.le_refl _) u.2⟩)
      rw [u.1]
      show _ = Sum.inr (Sum.inl (x + (σ 19 i * wor σ s o 0 (spr σ (σ 18 i) st).1 + isum _ n (i + 1))))
      rw [Int.add_assoc]
    refine zWp_it (by omega) (zWp_ql (q_hand (d := d + 3) c1 w wt1 t1 hs 0 (by decide)) ?_)
    rw [← wor_0]
    exact fin h1 v1 c1
theorem q_wTwo {d : Nat} {σ st : zH} {s o v : Int} (w : WS σ) (wt : WT σ st) (hs : 0 ≤ s ∧ s < nS σ) (hv : 0 ≤ v ∧ v ≤ 2) : ∀ (n : Nat) {i x : Int} {h : zH}, 0 ≤ i → i + n = nT σ → 0 ≤ x ∧ x ≤ 40000000000 * i → DR9 σ s o h → RT σ st v h → zWp (l_R_waitsTwo_5 (d + 7) v x i h) (fun a h' => a = .inr (.inl (x + isum (fun t => σ 19 t * wor σ s o 1 (spr σ (σ 18 t) st).1) n i)) ∧ frV σ v h h')
  | 0, i, x, h, hi, hn, hx, c, t => by
    have hb := c.1.b
    rw [el_R_waitsTwo_5, c.1.2.2.2.1.2.2.2.1]
    exact zWp_it (by omega) (zWp_nt (by omega) (zWp_s ⟨by show _ = Sum.inr (Sum.inl (x + 0)); rw [Int.add_zero], frV.rf h⟩))
  | n + 1, i, x, h, hi, hn, hx, c, t => by
    have hb := c.1.b
    have hT6 : nT σ ≤ 6 := w.2.1.2.2.2.2.2.2.2.1
    have hT0 : 0 ≤ nT σ := w.2.1.2.2.2.2.2.2.1
    have hth := w.2.2.2.2.2.2.1 i hi (by omega)
    rw [el_R_waitsTwo_5, c.1.2.2.2.1.2.2.2.1, w32_i (x := v + 1) (by omega), w32_i (x := i + 1) (by omega)]
    refine zWp_it (by omega) (zWp_it (by omega) (zWp_bv (q_R_thaws (d := d + 1) (t := v + 1) (f := v) w c.1 t wt (by omega) (by omega) (by omega) (by omega)) (fun _ h1 u1 => ?_)))
    obtain ⟨sp, f1, o1⟩ := u1
    have v1 : frV σ v h h1 := ⟨f1, fun u st' hu r => o1 u st' (by omega) r⟩
    have c1 := c.q f1
    have hb1 := c1.1.b
    have t1 := sp.1
    have wt1 := spr_w w wt (σ 18 i)
    rw [ixw (by omega) (by omega), (c1.1.2.2.2.2.2.2.1 i hi (by omega)).2]
    have bw := wor_b w (o := o) hs 1 (spr σ (σ 18 i) st).1
    have bw2 := wei_b w hs 1
    have b5 : 0 ≤ σ 19 i * wor σ s o 1 (spr σ (σ 18 i) st).1 ∧ σ 19 i * wor σ s o 1 (spr σ (σ 18 i) st).1 ≤ 99 * 352483164 := by
      refine ⟨Int.mul_nonneg (by omega) bw.1, Int.mul_le_mul hth.2.2.2 ?_ bw.1 (by decide)⟩
      have pk : ((594 ^ 1 : Nat) : Int) ≤ 352836 := by decide
      omega
    have fin : ∀ h2, frV σ v h h2 → DR9 σ s o h2 → zWp (l_R_waitsTwo_5 (d + 7) v (w64 (x + w64 (σ 19 i * wor σ s o 1 (spr σ (σ 18 i) st).1))) (i + 1) h2) (fun a h' => a = .inr (.inl (x + isum (fun t => σ 19 t * wor σ s o 1 (spr σ (σ 18 t) st).1) (n + 1) i)) ∧ frV σ v h h') := by
      intro h2 v2 c2
      rw [w64_i (x := σ 19 i * wor σ s o 1 (spr σ (σ 18 i) st).1) (by omega), w64_i (x := x + σ 19 i * wor σ s o 1 (spr σ (σ 18 i) st).1) (by omega)]
      refine zWp_m (q_wTwo w wt hs hv n (by omega) (by omega) (by omega) c2 (v2.2 v st (Int.le_refl _) t)) (fun a h' u => ⟨?_, v2.t (Int.le_refl _) u.2⟩)
      rw [u.1]
      show _ = Sum.inr (Sum.inl (x + (σ 19 i * wor σ s o 1 (spr σ (σ 18 i) st).1 + isum _ n (i + 1))))
      rw [Int.add_assoc]
    refine zWp_it (by omega) (zWp_ql (q_hand (d := d + 4) c1 w wt1 t1 hs 1 (by decide)) ?_)
    rw [em_R_waitsOne]
    obtain ⟨a2, h2, e2, rfl, v2⟩ := q_wOne (d := d) w wt1 hs (v := v + 1) (by omega) (nT σ).toNat (i := 0) (x := 0) (by decide) (by omega) (by omega) c1 t1
    refine zWp_ql e2 (zWp_ql q_Rmore ?_)
    rw [Int.zero_add, show isum (fun t => σ 19 t * wor σ s o 0 (spr σ (σ 18 t) (spr σ (σ 18 i) st).1).1) (nT σ).toNat 0 = wtS σ s o 0 (spr σ (σ 18 i) st).1 from rfl, wor_m w hs]
    refine fin h2 ⟨f1.t v2.1, fun u st' hu r => v2.2 u st' (by omega) (v1.2 u st' hu r)⟩ (c1.q v2.1)
theorem q_wThree {d : Nat} {σ st : zH} {s o v : Int} (w : WS σ) (wt : WT σ st) (hs : 0 ≤ s ∧ s < nS σ) (hv : 0 ≤ v ∧ v ≤ 1) : ∀ (n : Nat) {i x : Int} {h : zH}, 0 ≤ i → i + n = nT σ → 0 ≤ x ∧ x ≤ 40000000000 * i → DR9 σ s o h → RT σ st v h → zWp (l_R_waitsThree_5 (d + 8) v x i h) (fun a h' => a = .inr (.inl (x + isum (fun t => σ 19 t * wor σ s o 2 (spr σ (σ 18 t) st).1) n i)) ∧ frV σ v h h')
  | 0, i, x, h, hi, hn, hx, c, t => by
    have hb := c.1.b
    rw [el_R_waitsThree_5, c.1.2.2.2.1.2.2.2.1]
    exact zWp_it (by omega) (zWp_nt (by omega) (zWp_s ⟨by show _ = Sum.inr (Sum.inl (x + 0)); rw [Int.add_zero], frV.rf h⟩))
  | n + 1, i, x, h, hi, hn, hx, c, t => by
    have hb := c.1.b
    have hT6 : nT σ ≤ 6 := w.2.1.2.2.2.2.2.2.2.1
    have hT0 : 0 ≤ nT σ := w.2.1.2.2.2.2.2.2.1
    have hth := w.2.2.2.2.2.2.1 i hi (by omega)
    rw [el_R_waitsThree_5, c.1.2.2.2.1.2.2.2.1, w32_i (x := v + 1) (by omega), w32_i (x := i + 1) (by omega)]
    refine zWp_it (by omega) (zWp_it (by omega) (zWp_bv (q_R_thaws (d := d + 2) (t := v + 1) (f := v) w c.1 t wt (by omega) (by omega) (by omega) (by omega)) (fun _ h1 u1 => ?_)))
    obtain ⟨sp, f1, o1⟩ := u1
    have v1 : frV σ v h h1 := ⟨f1, fun u st' hu r => o1 u st' (by omega) r⟩
    have c1 := c.q f1
    have hb1 := c1.1.b
    have t1 := sp.1
    have wt1 := spr_w w wt (σ 18 i)
    rw [ixw (by omega) (by omega), (c1.1.2.2.2.2.2.2.1 i hi (by omega)).2]
    have bw := wor_b w (o := o) hs 2 (spr σ (σ 18 i) st).1
    have bw2 := wei_b w hs 2
    have b5 : 0 ≤ σ 19 i * wor σ s o 2 (spr σ (σ 18 i) st).1 ∧ σ 19 i * wor σ s o 2 (spr σ (σ 18 i) st).1 ≤ 99 * 352483164 := by
      refine ⟨Int.mul_nonneg (by omega) bw.1, Int.mul_le_mul hth.2.2.2 ?_ bw.1 (by decide)⟩
      have pk : ((594 ^ 2 : Nat) : Int) ≤ 352836 := by decide
      omega
    have fin : ∀ h2, frV σ v h h2 → DR9 σ s o h2 → zWp (l_R_waitsThree_5 (d + 8) v (w64 (x + w64 (σ 19 i * wor σ s o 2 (spr σ (σ 18 i) st).1))) (i + 1) h2) (fun a h' => a = .inr (.inl (x + isum (fun t => σ 19 t * wor σ s o 2 (spr σ (σ 18 t) st).1) (n + 1) i)) ∧ frV σ v h h') := by
      intro h2 v2 c2
      rw [w64_i (x := σ 19 i * wor σ s o 2 (spr σ (σ 18 i) st).1) (by omega), w64_i (x := x + σ 19 i * wor σ s o 2 (spr σ (σ 18 i) st).1) (by omega)]
      refine zWp_m (q_wThree w wt hs hv n (by omega) (by omega) (by omega) c2 (v2.2 v st (Int.le_refl _) t)) (fun a h' u => ⟨?_, v2.t (Int.le_refl _) u.2⟩)
      rw [u.1]
      show _ = Sum.inr (Sum.inl (x + (σ 19 i * wor σ s o 2 (spr σ (σ 18 i) st).1 + isum _ n (i + 1))))
      rw [Int.add_assoc]
    refine zWp_it (by omega) (zWp_ql (q_hand (d := d + 5) c1 w wt1 t1 hs 2 (by decide)) ?_)
    rw [em_R_waitsTwo]
    obtain ⟨a2, h2, e2, rfl, v2⟩ := q_wTwo (d := d) w wt1 hs (v := v + 1) (by omega) (nT σ).toNat (i := 0) (x := 0) (by decide) (by omega) (by omega) c1 t1
    refine zWp_ql e2 (zWp_ql q_Rmore ?_)
    rw [Int.zero_add, show isum (fun t => σ 19 t * wor σ s o 1 (spr σ (σ 18 t) (spr σ (σ 18 i) st).1).1) (nT σ).toNat 0 = wtS σ s o 1 (spr σ (σ 18 i) st).1 from rfl, wor_m w hs]
    refine fin h2 ⟨f1.t v2.1, fun u st' hu r => v2.2 u st' (by omega) (v1.2 u st' hu r)⟩ (c1.q v2.1)
def vDow (σ st : zH) (s o n x : Int) : Int := if (0 ≤ s ∧ s < nS σ) ∧ st 1 s ≠ -1 then (if 0 ≤ o ∧ o < nO σ then (if 0 ≤ n ∧ n ≤ 3 then (if 0 ≤ x ∧ x < 2 then (if 0 < n ∧ nT σ = 0 then -1 else if x = 1 then (if n = 0 ∨ σ 6 (st 1 s) = o then 1 else 0) else w32 (w64 (Int.tdiv (w64 (1000 * wor σ s o n.toNat st)) (pwA (oddsA σ) n.toNat 1)))) else -1) else -1) else -1) else -1
theorem q_dowry {d : Nat} {σ st : zH} {D : zDR} {K : zKp} {Λ : zLw} {G h : zH} {s o n x : Int} (c : CI σ st D K Λ G h) : zWp (m_B_dowry (d + 12) s o n x h) (fun v h' => v = .inl (vDow σ st s o n x) ∧ frW 3 h h') := by
  have b := c.1
  have w := b.2.2.2.1
  have wt := b.2.2.2.2
  have ha := b.2.1.a
  have hS10 : nS σ ≤ 10 := w.2.1.2.2.2.1
  have hT0 : 0 ≤ nT σ := w.2.1.2.2.2.2.2.2.1
  unfold vDow
  rw [em_B_dowry]
  refine zWp_qi (q_stoneLies b) ?_
  by_cases c1 : (0 ≤ s ∧ s < nS σ) ∧ st 1 s ≠ -1
  case neg => rw [if_neg c1, if_neg c1]; exact zWp_it rfl (zWp_s ⟨rfl, frW.rf h⟩)
  rw [if_pos c1, if_pos c1]
  refine zWp_nt (by decide) (zWp_qi (q_hasOwner b) ?_)
  by_cases c2 : 0 ≤ o ∧ o < nO σ
  case neg => rw [if_neg c2, if_neg c2]; exact zWp_it rfl (zWp_s ⟨rfl, frW.rf h⟩)
  rw [if_pos c2, if_pos c2]
  refine zWp_nt (by decide) (zWp_qi q_between ?_)
  by_cases c3 : 0 ≤ n ∧ n ≤ 3
  case neg => rw [if_neg c3, if_neg c3]; exact zWp_it rfl (zWp_s ⟨rfl, frW.rf h⟩)
  rw [if_pos c3, if_pos c3]
  refine zWp_nt (by decide) (zWp_qi q_within ?_)
  by_cases c4 : 0 ≤ x ∧ x < 2
  case neg => rw [if_neg c4, if_neg c4]; exact zWp_it rfl (zWp_s ⟨rfl, frW.rf h⟩)
  rw [if_pos c4, if_pos c4]
  refine zWp_nt (by decide) ?_
  have e13 : h (h 0 7 + 8) 13 = nT σ := b.2.1.g 8 (by decide)
  have e1 : h 68 s = st 1 s := b.2.2.1.pl (by omega)
  obtain ⟨k, hk⟩ := Int.eq_ofNat_of_zero_le c3.1
  have l55 : ¬ (0 < n ∧ nT σ = 0) → zWp (l_B_dowry_55 (d + 11) s o n x h) (fun v h' => v = .inl (if x = 1 then (if n = 0 ∨ σ 6 (st 1 s) = o then 1 else 0) else w32 (w64 (Int.tdiv (w64 (1000 * wor σ s o n.toNat st)) (pwA (oddsA σ) n.toNat 1)))) ∧ frW 3 h h') := by
    intro hz
    rw [el_B_dowry_55, e1]
    by_cases k1 : x = 1
    · refine zWp_it k1 ?_
      rw [if_pos k1]
      by_cases k0 : n = 0
      · rw [if_pos (Or.inl k0)]
        exact zWp_it k0 (zWp_qi q_one1 (zWp_s ⟨rfl, frW.rf h⟩))
      · refine zWp_nt k0 (zWp_it (by omega) (zWp_po (by omega) (zWp_qi (q_ownerOf b.2.1 w) ?_)))
        by_cases k2 : σ 6 (st 1 s) = o
        · rw [if_pos (Or.inr k2)]
          exact zWp_it ((own_on wt c1.1 c2.1).2 ⟨c1.2, k2⟩) (zWp_qi q_one1 (zWp_s ⟨rfl, frW.rf h⟩))
        · rw [if_neg (show ¬ (n = 0 ∨ σ 6 (st 1 s) = o) from fun z => z.elim k0 k2)]
          exact zWp_nt (fun z => k2 ((own_on wt c1.1 c2.1).1 z).2) (zWp_qi q_one0 (zWp_s ⟨rfl, frW.rf h⟩))
    · refine zWp_nt k1 ?_
      rw [if_neg k1]
      have hP : 1 ≤ pwA (oddsA σ) k 1 := by
        by_cases k0 : k = 0
        · rw [k0]; show (1 : Int) ≤ 1; decide
        · exact pwA_p (odds_p w (fun z => hz ⟨by omega, z⟩)) k
      rw [hk, show ((k : Nat) : Int).toNat = k from rfl]
      refine zWp_ql (q_pow (d := d + 9) rfl b.2.1 w k (by omega)) (zWp_it (by rw [zlc_p]; omega) ?_)
      obtain ⟨v4, h4, e4, rfl, f4⟩ := q_ww (d := d + 4 - k) (a := h 0 7) c1.1 c2.1 k (T := 67) (st := st) (h := h) (by omega) ⟨rfl, b.2.1, w, c.2.2.2.1.1⟩ b.2.2.1 wt (by omega)
      rw [show d + 4 - k + k + 7 = d + 11 by omega] at e4
      exact zWp_ql e4 (zWp_dz (by omega) (zWp_s ⟨rfl, fun r hr => f4 r (by omega)⟩))
  by_cases k0 : 0 < n
  · refine zWp_it k0 (zWp_po (by omega) (zWp_po (by omega) (zWp_it (by decide) ?_)))
    rw [e13]
    by_cases k3 : nT σ = 0
    · rw [if_pos (show 0 < n ∧ nT σ = 0 from ⟨k0, k3⟩)]
      exact zWp_it k3 (zWp_s ⟨rfl, frW.rf h⟩)
    · rw [if_neg (show ¬ (0 < n ∧ nT σ = 0) from fun z => k3 z.2)]
      exact zWp_nt k3 (l55 (fun z => k3 z.2))
  · rw [if_neg (show ¬ (0 < n ∧ nT σ = 0) from fun z => k0 z.1)]
    exact zWp_nt k0 (l55 (fun z => k0 z.1))
theorem RI.sl {σ st : zH} {D : zDR} {K : zKp} {Λ : zLw} {G h : zH} (c : RI σ st D K Λ G h) {q x : Int} (hq : ¬ (q = 1 ∨ q = 10 ∨ q = 11 ∨ q = 12 ∨ q = 68 ∨ q = 69 ∨ q = 70 ∨ q = 93)) : RI σ st D K Λ G (zset h 403 q x) :=
  c.g (c.2.1.fr (fun y z => zset_j (by omega)) (fun r z => zset_n (by omega))) (fun y z => zset_j (by omega)) (fun r z => zset_n (by omega))
theorem q_R_dowry {d : Nat} {σ st : zH} {D : zDR} {K : zKp} {Λ : zLw} {G h : zH} {s o n x : Int} (c : RI σ st D K Λ G h) : zWp (m_R_dowry (d + 12) s o n x h) (fun v h' => v = .inl (vDow σ st s o n x) ∧ RI σ st D K Λ G h' ∧ frLo h h') := by
  have w := c.1.2.2.1
  have wt := c.1.2.2.2
  have hb := c.1.1.b
  have hS10 : nS σ ≤ 10 := w.2.1.2.2.2.1
  have hT0 : 0 ≤ nT σ := w.2.1.2.2.2.2.2.2.1
  unfold vDow
  rw [em_R_dowry]
  refine zWp_qi (q_R_isThere c.1) ?_
  by_cases c1 : (0 ≤ s ∧ s < nS σ) ∧ st 1 s ≠ -1
  case neg => rw [if_neg c1, if_neg c1]; exact zWp_it rfl (zWp_s ⟨rfl, c, frLo.rf h⟩)
  rw [if_pos c1, if_pos c1]
  refine zWp_nt (by decide) (zWp_qi (q_R_isOwner c.1.1) ?_)
  by_cases c2 : 0 ≤ o ∧ o < nO σ
  case neg => rw [if_neg c2, if_neg c2]; exact zWp_it rfl (zWp_s ⟨rfl, c, frLo.rf h⟩)
  rw [if_pos c2, if_pos c2]
  refine zWp_nt (by decide) (zWp_qi q_R_is ?_)
  by_cases c3 : 0 ≤ n ∧ n ≤ 3
  case neg => rw [if_neg c3, if_neg c3]; exact zWp_it rfl (zWp_s ⟨rfl, c, frLo.rf h⟩)
  rw [if_pos c3, if_pos c3]
  refine zWp_nt (by decide) (zWp_qi q_R_is ?_)
  by_cases c4 : 0 ≤ x ∧ x < 2
  case neg => rw [if_neg c4, if_neg (show ¬ (0 ≤ x ∧ x ≤ 1) by omega)]; exact zWp_it rfl (zWp_s ⟨rfl, c, frLo.rf h⟩)
  rw [if_pos c4, if_pos (show 0 ≤ x ∧ x ≤ 1 by omega)]
  refine zWp_nt (by decide) ?_
  obtain ⟨k, hk⟩ := Int.eq_ofNat_of_zero_le c3.1
  have l53 : ¬ (0 < n ∧ nT σ = 0) → zWp (l_R_dowry_53 (d + 11) s o n x h) (fun v h' => v = .inl (if x = 1 then (if n = 0 ∨ σ 6 (st 1 s) = o then 1 else 0) else w32 (w64 (Int.tdiv (w64 (1000 * wor σ s o n.toNat st)) (pwA (oddsA σ) n.toNat 1)))) ∧ RI σ st D K Λ G h' ∧ frLo h h') := by
    intro hz
    have hP : 1 ≤ pwA (oddsA σ) k 1 := by
      by_cases k0 : k = 0
      · rw [k0]; show (1 : Int) ≤ 1; decide
      · exact pwA_p (odds_p w (fun z => hz ⟨by omega, z⟩)) k
    rw [el_R_dowry_53]
    refine zWp_lt fun h1 e1 => zWp_lt fun h2 e2 => ?_
    have r2 : RI σ st D K Λ G h2 := by rw [e2, e1]; exact (c.sl (by decide)).sl (by decide)
    have d2 : DR9 σ s o h2 := ⟨r2.1.1, by rw [e2, zset_j (by decide), e1, zset_e], by rw [e2, zset_e]⟩
    have l2 : frLo h h2 := fun q hq => by rw [e2, zset_n (by omega), e1, zset_n (by omega)]
    have t2 := r2.1.2.1
    rw [hk, show ((k : Nat) : Int).toNat = k from rfl]
    have mx : ∀ (y : Int) (h3 : zH), RI σ st D K Λ G h3 → frLo h h3 → (0 ≤ y ∧ (if y < hnd σ s o k st then hnd σ s o k st else y) = wor σ s o k st) → zWp (l_R_dowry_110 (d + 11) s o k x (hnd σ s o k st) y h3) (fun v h' => v = .inl (if x = 1 then (if (k : Int) = 0 ∨ σ 6 (st 1 s) = o then 1 else 0) else w32 (w64 (Int.tdiv (w64 (1000 * wor σ s o k st)) (pwA (oddsA σ) k 1)))) ∧ RI σ st D K Λ G h' ∧ frLo h h') := by
      intro y h3 r3 l3 hy
      rw [el_R_dowry_110]
      by_cases k1 : x = 1
      · refine zWp_it k1 ?_
        rw [if_pos k1]
        by_cases k0 : (k : Int) = 0
        · rw [if_pos (Or.inl k0)]
          exact zWp_it k0 (zWp_s ⟨rfl, r3, l3⟩)
        · refine zWp_nt k0 (zWp_qi (q_R_isOn w r3.1.1 r3.1.2.1 wt c1.1) ?_)
          by_cases k2 : σ 6 (st 1 s) = o
          · rw [if_pos (show (k : Int) = 0 ∨ σ 6 (st 1 s) = o from Or.inr k2), if_pos (show st 1 s ≠ -1 ∧ σ 6 (st 1 s) = o from ⟨c1.2, k2⟩)]
            refine zWp_nt (by decide) (zWp_nt ?_ (zWp_s ⟨rfl, r3, l3⟩))
            rw [zlc_m]
            intro z
            have q := hy.2
            have bw := (wor_b w (o := o) c1.1 k st).2
            have eh : hnd σ s o k st = σ 13 s * pwA (oddsA σ) k 1 := by unfold hnd; rw [if_pos ⟨c1.2, k2⟩]
            rw [if_neg (by omega)] at q
            omega
          · rw [if_neg (show ¬ ((k : Int) = 0 ∨ σ 6 (st 1 s) = o) from fun z => z.elim k0 k2), if_neg (show ¬ (st 1 s ≠ -1 ∧ σ 6 (st 1 s) = o) from fun z => k2 z.2)]
            exact zWp_it rfl (zWp_s ⟨rfl, r3, l3⟩)
      · refine zWp_nt k1 (zWp_ql q_Rmore ?_)
        rw [if_neg k1, hy.2]
        exact zWp_qi (q_R_oddsAll r3.1.1 w) (zWp_ql (q_Rpow (odds_b w) k (by omega)) (zWp_dz (by omega) (zWp_s ⟨rfl, r3, l3⟩)))
    refine zWp_ql (q_hand (d := d + 8) d2 w wt t2 c1.1 k (by omega)) ?_
    have gen : ∀ (j : Nat) (a3 : zV) (h3 : zH), k = j + 1 → a3 = .inr (.inl (0 + isum (fun t => σ 19 t * wor σ s o j (spr σ (σ 18 t) st).1) (nT σ).toNat 0)) → frV σ 0 h2 h3 → a3 = .inr (.inl (wtS σ s o j st)) ∧ zWp (l_R_dowry_110 (d + 11) s o k x (hnd σ s o k st) (wtS σ s o j st) h3) (fun v h' => v = .inl (if x = 1 then (if (k : Int) = 0 ∨ σ 6 (st 1 s) = o then 1 else 0) else w32 (w64 (Int.tdiv (w64 (1000 * wor σ s o k st)) (pwA (oddsA σ) k 1)))) ∧ RI σ st D K Λ G h' ∧ frLo h h') := by
      intro j a3 h3 ej ea v3
      refine ⟨by rw [ea, Int.zero_add]; rfl, mx _ h3 (r2.q v3.1) (l2.t v3.1.lo) ⟨(wtS_of w (wor_b w c1.1 j)).1, ?_⟩⟩
      rw [ej]
      exact wor_m w c1.1
    by_cases k0 : (k : Int) = 0
    · refine zWp_it k0 (mx 0 h2 r2 l2 ⟨Int.le_refl _, ?_⟩)
      have ek : k = 0 := by omega
      rw [ek, wor_0]
      have := (wor_b w (o := o) c1.1 0 st).1
      rw [wor_0] at this
      split <;> omega
    refine zWp_nt k0 ?_
    by_cases k1 : (k : Int) = 1
    · refine zWp_it k1 ?_
      rw [em_R_waitsOne]
      obtain ⟨a3, h3, e3, q3, v3⟩ := q_wOne (d := d + 4) w wt c1.1 (v := 0) (by decide) (nT σ).toNat (i := 0) (x := 0) (by decide) (by omega) (by decide) d2 t2
      obtain ⟨z1, z2⟩ := gen 0 a3 h3 (by omega) q3 v3
      rw [z1] at e3
      exact zWp_ql e3 z2
    refine zWp_nt k1 ?_
    by_cases k2 : (k : Int) = 2
    · refine zWp_it k2 ?_
      rw [em_R_waitsTwo]
      obtain ⟨a3, h3, e3, q3, v3⟩ := q_wTwo (d := d + 3) w wt c1.1 (v := 0) (by decide) (nT σ).toNat (i := 0) (x := 0) (by decide) (by omega) (by decide) d2 t2
      obtain ⟨z1, z2⟩ := gen 1 a3 h3 (by omega) q3 v3
      rw [z1] at e3
      exact zWp_ql e3 z2
    refine zWp_nt k2 ?_
    rw [em_R_waitsThree]
    obtain ⟨a3, h3, e3, q3, v3⟩ := q_wThree (d := d + 2) w wt c1.1 (v := 0) (by decide) (nT σ).toNat (i := 0) (x := 0) (by decide) (by omega) (by decide) d2 t2
    obtain ⟨z1, z2⟩ := gen 2 a3 h3 (by omega) q3 v3
    rw [z1] at e3
    exact zWp_ql e3 z2
  by_cases k0 : 0 < n
  · refine zWp_it k0 (zWp_it (by omega) ?_)
    rw [c.1.1.2.2.2.1.2.2.2.1]
    by_cases k3 : nT σ = 0
    · rw [if_pos (show 0 < n ∧ nT σ = 0 from ⟨k0, k3⟩)]
      exact zWp_it k3 (zWp_s ⟨rfl, c, frLo.rf h⟩)
    · rw [if_neg (show ¬ (0 < n ∧ nT σ = 0) from fun z => k3 z.2)]
      exact zWp_nt k3 (l53 (fun z => k3 z.2))
  · rw [if_neg (show ¬ (0 < n ∧ nT σ = 0) from fun z => k0 z.1)]
    exact zWp_nt k0 (l53 (fun z => k0 z.1))
theorem a_dowry {d : Nat} {x0 x1 x2 x3 : Int} {h : zH} (i : INV h) : Alike (m_B_dowry (d + 12) x0 x1 x2 x3 h) (m_R_dowry (d + 12) x0 x1 x2 x3) := by
  obtain ⟨σ, st, D, K, Λ, G, c, r, wk, wg⟩ := i
  refine alike (V := .inl (vDow σ st x0 x1 x2 x3)) (st := st) (Λ := Λ) (h := h) wk wg (fun h' f => q_R_dowry (r.hi f)) (zWp_m (q_dowry c) (fun v h1 u => ⟨u.1, ?_, fun r hr => u.2 r (by omega)⟩))
  exact c.g (c.2.2.1.fr (fun r z => u.2 r (by omega))) (by rw [u.2 0 (by decide)]) (by rw [u.2 0 (by decide)]) (fun r z => u.2 r (by unfold crC at z; omega))
