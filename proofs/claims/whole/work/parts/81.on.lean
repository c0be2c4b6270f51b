/-! on: both alike -/
def hOk (σ : zH) (T : Int → Int) (i : Int) : Bool := decide (T (nS σ + i) ≤ 1 ∧ (T (nS σ + i) = 0 → jHo σ T (σ 17 i) ≤ 0))
theorem stJ_k1 {σ : zH} {T : Int → Int} {p k c : Int} (hk : 0 ≤ k) (hT : T (nS σ + k) = 1) : zset (stJ σ T p k c) 9 k 1 = stJ σ T p (k + 1) c := by
  funext a j
  rw [zset_x]
  by_cases e : a = 9
  · subst e
    rw [stJ_9, stJ_9]
    by_cases e2 : j = k
    · rw [if_pos ⟨rfl, e2⟩, if_pos (by omega), e2, hT]
    · rw [if_neg (fun z => e2 z.2)]
      by_cases e3 : 0 ≤ j ∧ j < k
      · rw [if_pos e3, if_pos (by omega)]
      · rw [if_neg e3, if_neg (by omega)]
  · rw [if_neg (fun z => e z.1)]; unfold stJ; rw [if_neg e, if_neg e]
theorem stJ_k0 {σ : zH} {T : Int → Int} {p k c : Int} (hT : T (nS σ + k) = 0) : stJ σ T p k c = stJ σ T p (k + 1) c := by
  funext a j
  by_cases e : a = 9
  · subst e
    rw [stJ_9, stJ_9]
    by_cases e2 : j = k
    · rw [if_neg (by omega), e2, hT]
      split <;> rfl
    · by_cases e3 : 0 ≤ j ∧ j < k
      · rw [if_pos e3, if_pos (by omega)]
      · rw [if_neg e3, if_neg (by omega)]
  · unfold stJ; rw [if_neg e, if_neg e]
theorem q_readHouses2 {d : Nat} {σ : zH} {T : Int → Int} {a : Int} : ∀ (n : Nat) {i : Int} {h : zH}, JC σ T a h → CT σ (stJ σ T 0 i (nC σ)) 75 h → 0 ≤ i → i + n = nHo σ → zWp (l_B_readHouses_2 (d + 1) (nS σ) i h) (fun v h' => v = .inl (if allB (hOk σ T) n i = true then 1 else 0) ∧ frS 75 h h' ∧ (allB (hOk σ T) n i = true → CT σ (stJ σ T 0 (nHo σ) (nC σ)) 75 h'))
  | 0, i, h, j, t, hi, hh => by
    have ha := j.2.1.a
    have e10 : h (a + 8) 10 = nHo σ := j.2.1.g 8 (by decide)
    have ei : i = nHo σ := by omega
    rw [ei] at t
    rw [el_B_readHouses_2, j.1, e10]
    exact zWp_po (by omega) (zWp_po (by omega) (zWp_it (by decide) (zWp_nt (by omega) (zWp_s ⟨rfl, fun _ _ => rfl, fun _ => t⟩))))
  | n + 1, i, h, j, t, hi, hh => by
    have ha := j.2.1.a
    have w := j.2.2.1
    have hn := w.n
    have hS0 : 0 ≤ nS σ := w.2.1.2.2.1
    have hS10 : nS σ ≤ 10 := w.2.1.2.2.2.1
    have hH8 : nHo σ ≤ 8 := w.2.1.2.2.2.2.2.1
    have e10 : h (a + 8) 10 = nHo σ := j.2.1.g 8 (by decide)
    have e17 : h (a + 17) i = σ 17 i := j.2.1.g 17 (by decide)
    have h17 := w.2.2.2.2.2.1 i hi (by omega)
    have eN : jAt σ (nC σ) = nS σ + nHo σ + 4 * nC σ := rfl
    obtain ⟨b0, b0l, b0h⟩ := j.2.2.2 (nS σ + i) (by omega) (by omega)
    have e5 : h 80 (σ 17 i) = jHo σ T (σ 17 i) := by
      have : h 80 (σ 17 i) = _ := t.ho (i := σ 17 i) (by omega)
      rw [this, stJ_5, if_pos (by omega)]
    have st56 : ∀ x, x = T (nS σ + i) → T (nS σ + i) ≤ 1 → zWp (l_B_readHouses_56 (d + 1) (nS σ) i x h) (fun v h' => v = .inl (if allB (hOk σ T) n (i + 1) = true then 1 else 0) ∧ frS 75 h h' ∧ (allB (hOk σ T) n (i + 1) = true → CT σ (stJ σ T 0 (nHo σ) (nC σ)) 75 h')) := by
      intro x hx h1
      rw [el_B_readHouses_56, w32_i (x := i + 1) (by omega), hx]
      refine zWp_lt fun h1 e1 => ?_
      have f1 : frS 75 h h1 := fun r hr => by rw [e1, zset_n (by omega)]
      have t1 : CT σ (stJ σ T 0 (i + 1) (nC σ)) 75 h1 := by
        by_cases e : T (nS σ + i) = 1
        · rw [e1, e, ← stJ_k1 hi e]
          exact t.h9 w (by omega)
        · have e0 : T (nS σ + i) = 0 := by omega
          rw [← stJ_k0 e0]
          obtain ⟨N, q1, q2, q3⟩ := t.2.2.2.2.2.2.1
          have ez : zor (h 75 8) (zshl 0 i) = h 75 8 := by
            obtain ⟨u, hu⟩ := Int.eq_ofNat_of_zero_le hi
            rw [q1, hu, show (0 : Int) = ((0 : Nat) : Int) from rfl, zshl_n (by omega) (by omega), Nat.zero_mul, zor_n (by omega) (by decide), Nat.or_zero]
          have ek : ∀ q, h1 75 q = h 75 q := fun q => by
            rw [e1, e0, ez, zset_g]
            split
            · rename_i z; rw [z]
            · rfl
          refine t.fr (fun r r1 r2 => ?_)
          by_cases er : r = 75
          · rw [er]; funext q; exact ek q
          · rw [e1, zset_n er]
      exact zWp_m (q_readHouses2 n (j.q f1) t1 (by omega) (by omega)) (fun v h' u => ⟨u.1, f1.t u.2.1, u.2.2⟩)
    rw [el_B_readHouses_2, j.1, e10, e17, w32_i (x := nS σ + i) (by omega), b0, e5]
    refine zWp_po (by omega) (zWp_po (by omega) (zWp_it (by decide) (zWp_it (by omega) (zWp_it (by omega) ?_))))
    by_cases k1 : 1 < T (nS σ + i)
    · rw [allB_f (f := hOk σ T) (i := i) (decide_eq_false (fun z => by omega))]
      exact zWp_it k1 (zWp_s ⟨rfl, fun _ _ => rfl, fun z => by cases z⟩)
    refine zWp_nt k1 ?_
    by_cases k0 : T (nS σ + i) = 0
    · refine zWp_it k0 (zWp_po (by omega) (zWp_po (by omega) (zWp_it (by omega) (zWp_it (by omega) ?_))))
      by_cases k2 : 0 < jHo σ T (σ 17 i)
      · rw [allB_f (f := hOk σ T) (i := i) (decide_eq_false (fun z => by have := z.2 k0; omega))]
        exact zWp_it k2 (zWp_s ⟨rfl, fun _ _ => rfl, fun z => by cases z⟩)
      · rw [allB_c (f := hOk σ T) (i := i) (decide_eq_true ⟨by omega, fun _ => by omega⟩)]
        exact zWp_nt k2 (st56 _ rfl (by omega))
    · rw [allB_c (f := hOk σ T) (i := i) (decide_eq_true ⟨by omega, fun z => absurd z k0⟩)]
      exact zWp_nt k0 (st56 _ rfl (by omega))
def jBar (σ : zH) (T : Int → Int) (i c : Int) : Prop := sAt σ (stJ σ T i (nHo σ) (nC σ)) c ≠ -1 ∨ 0 < stJ σ T i (nHo σ) (nC σ) 5 c ∨ (σ 7 c ≠ -1 ∧ stJ σ T i (nHo σ) (nC σ) 9 (σ 7 c) ≠ 1)
noncomputable def sOk (σ : zH) (T : Int → Int) (i : Int) : Bool := @decide (T i = 0 ∨ T i ≤ nC σ ∧ ¬ jBar σ T i (T i - 1)) (Classical.propDecidable _)
theorem q_readStones2 {d : Nat} {σ : zH} {T : Int → Int} {a : Int} : ∀ (n : Nat) {i : Int} {h : zH}, JC σ T a h → CT σ (stJ σ T i (nHo σ) (nC σ)) 75 h → WT σ (stJ σ T i (nHo σ) (nC σ)) → 0 ≤ i → i + n = nS σ → zWp (l_B_readStones_2 (d + 3) i h) (fun v h' => v = .inl (if allB (sOk σ T) n i = true then 1 else 0) ∧ frS 75 h h' ∧ (allB (sOk σ T) n i = true → CT σ (stJ σ T (nS σ) (nHo σ) (nC σ)) 75 h' ∧ WT σ (stJ σ T (nS σ) (nHo σ) (nC σ))))
  | 0, i, h, j, t, wt, hi, hh => by
    have ha := j.2.1.a
    have e7 : h (a + 8) 7 = nS σ := j.2.1.g 8 (by decide)
    have ei : i = nS σ := by omega
    rw [ei] at t wt
    rw [el_B_readStones_2, j.1, e7]
    exact zWp_po (by omega) (zWp_po (by omega) (zWp_it (by decide) (zWp_nt (by omega) (zWp_s ⟨rfl, fun _ _ => rfl, fun _ => ⟨t, wt⟩⟩))))
  | n + 1, i, h, j, t, wt, hi, hh => by
    have ha := j.2.1.a
    have w := j.2.2.1
    have hn := w.n
    have hS0 : 0 ≤ nS σ := w.2.1.2.2.1
    have hS10 : nS σ ≤ 10 := w.2.1.2.2.2.1
    have hH0 : 0 ≤ nHo σ := w.2.1.2.2.2.2.1
    have e7 : h (a + 8) 7 = nS σ := j.2.1.g 8 (by decide)
    have eN : jAt σ (nC σ) = nS σ + nHo σ + 4 * nC σ := rfl
    obtain ⟨b0, b0l, b0h⟩ := j.2.2.2 i (by omega) (by omega)
    rw [el_B_readStones_2, j.1, e7, b0, w32_i (x := i + 1) (by omega), w32_i (x := T i - 1) (by omega)]
    refine zWp_po (by omega) (zWp_po (by omega) (zWp_it (by decide) (zWp_it (by omega) (zWp_it (by omega) ?_))))
    by_cases k0 : T i = 0
    · have ek : sOk σ T i = true := by unfold sOk; exact @decide_eq_true _ (Classical.propDecidable _) (Or.inl k0)
      rw [allB_c ek]
      rw [stJ_p0 (k := nHo σ) (c := nC σ) k0] at t wt
      exact zWp_nt (by omega) (q_readStones2 n j t wt (by omega) (by omega))
    refine zWp_it (by omega) (zWp_po (by omega) (zWp_qi (q_hasCell j.2.1 w) ?_))
    by_cases k1 : T i ≤ nC σ
    case neg =>
      have ek : sOk σ T i = false := by unfold sOk; exact @decide_eq_false _ (Classical.propDecidable _) (fun z => by rcases z with z | z; exact k0 z; exact k1 z.1)
      rw [allB_f ek]
      exact zWp_it (by rw [if_neg (by omega)]) (zWp_s ⟨rfl, fun _ _ => rfl, fun z => by cases z⟩)
    refine zWp_nt (by rw [if_pos (by omega)]; decide) ?_
    rw [j.1]
    refine zWp_qi (q_isBarred j.2.1 w t (by omega)) ?_
    by_cases k2 : jBar σ T i (T i - 1)
    · have ek : sOk σ T i = false := by unfold sOk; exact @decide_eq_false _ (Classical.propDecidable _) (fun z => by rcases z with z | z; exact k0 z; exact z.2 k2)
      rw [allB_f ek]
      exact zWp_nt (by rw [if_pos (show sAt σ (stJ σ T i (nHo σ) (nC σ)) (T i - 1) ≠ -1 ∨ 0 < stJ σ T i (nHo σ) (nC σ) 5 (T i - 1) ∨ (σ 7 (T i - 1) ≠ -1 ∧ stJ σ T i (nHo σ) (nC σ) 9 (σ 7 (T i - 1)) ≠ 1) from k2)]; decide) (zWp_s ⟨rfl, fun _ _ => rfl, fun z => by cases z⟩)
    · have ek : sOk σ T i = true := by unfold sOk; exact @decide_eq_true _ (Classical.propDecidable _) (Or.inr ⟨k1, k2⟩)
      rw [allB_c ek]
      have sf : sAt σ (stJ σ T i (nHo σ) (nC σ)) (T i - 1) = -1 := by
        by_cases z : sAt σ (stJ σ T i (nHo σ) (nC σ)) (T i - 1) = -1
        · exact z
        · exact absurd (Or.inl z) k2
      refine zWp_it (by rw [if_neg (show ¬ (sAt σ (stJ σ T i (nHo σ) (nC σ)) (T i - 1) ≠ -1 ∨ 0 < stJ σ T i (nHo σ) (nC σ) 5 (T i - 1) ∨ (σ 7 (T i - 1) ≠ -1 ∧ stJ σ T i (nHo σ) (nC σ) 9 (σ 7 (T i - 1)) ≠ 1)) from k2)]) (zWp_bv (q_moveIn w t wt (by omega) (by rw [stJ_1, if_neg (by omega)]) (by omega) sf) (fun v h1 u => ?_))
      obtain ⟨u1, u2, u3⟩ := u
      have wt1 := WT_mv (s := i) (n := T i - 1) wt (by omega) (fun q q1 q2 => by
        rcases sAt_spec σ (stJ σ T i (nHo σ) (nC σ)) (T i - 1) hS0 with ⟨_, z⟩ | ⟨z, _, _⟩
        · exact z q q1 q2
        · omega)
      rw [stJ_p hi] at u1 wt1
      exact zWp_m (q_readStones2 n (j.q u3) u1 wt1 (by omega) (by omega)) (fun v h' x => ⟨x.1, u3.t x.2.1, x.2.2⟩)
theorem stJ_w0 {σ : zH} {T : Int → Int} (w : WS σ) (hb : ∀ j, 0 ≤ j → j < jAt σ (nC σ) → 0 ≤ T j) (h1 : ∀ c, 0 ≤ c → c < nC σ → jOk σ T c = true) (h2 : ∀ i, 0 ≤ i → i < nHo σ → hOk σ T i = true) : WT σ (stJ σ T 0 (nHo σ) (nC σ)) := by
  have hS0 : 0 ≤ nS σ := w.2.1.2.2.1
  have hH0 : 0 ≤ nHo σ := w.2.1.2.2.2.2.1
  have hn := w.n
  have eN : jAt σ (nC σ) = nS σ + nHo σ + 4 * nC σ := rfl
  refine ⟨fun i a b => ?_, fun c a b => ?_, fun i a b => ?_⟩
  · rw [stJ_1, if_neg (by omega)]; exact ⟨Or.inl rfl, fun _ _ _ _ => Or.inl rfl⟩
  · have k := of_decide_eq_true (h1 c a b)
    have eA : jAt σ c = nS σ + nHo σ + 4 * c := rfl
    have g0 := hb (jAt σ c) (by omega) (by omega)
    have g1 := hb (jAt σ c + 1) (by omega) (by omega)
    have g2 := hb (jAt σ c + 2) (by omega) (by omega)
    have g3 := hb (jAt σ c + 3) (by omega) (by omega)
    rw [stJ_5, stJ_6, stJ_8, if_pos ⟨a, b⟩, if_pos ⟨a, b⟩, if_pos ⟨a, b⟩]
    refine ⟨by unfold jHo; omega, k.1, g2, k.2.1, by omega, fun z => ?_⟩
    obtain ⟨_, _, _, _, _, _, u7, u8, u9, _⟩ := w.2.2.2.1 c a b
    by_cases e : σ 7 c = -1
    · exact Or.inl e
    · have kk := of_decide_eq_true (h2 (σ 7 c) (by omega) u8)
      rw [u9 e] at kk
      have gb := hb (nS σ + σ 7 c) (by omega) (by omega)
      refine Or.inr ?_
      rw [stJ_9, if_pos (by omega)]
      by_cases e0 : T (nS σ + σ 7 c) = 0
      · have := kk.2 e0
        omega
      · omega
  · have kk := of_decide_eq_true (h2 i a b)
    have gb := hb (nS σ + i) (by omega) (by omega)
    rw [stJ_9, if_pos ⟨a, b⟩]
    omega
theorem q_out90 {d : Nat} {σ : zH} {T : Int → Int} {a : Int} {Q : zV → zH → Prop} : ∀ (n : Nat) {i : Int} {h : zH}, JC σ T a h → CT σ (stB σ i (nS σ)) 75 h → 0 ≤ i → i + n = nS σ → (∀ h', JC σ T a h' → CT σ (stJ σ T 0 0 0) 75 h' → frS 75 h h' → zWp (l_B_isImage_90 (d + 1) (nS σ) (nHo σ) (nS σ) h') Q) → zWp (l_B_isImage_90 (d + 1) (nS σ) (nHo σ) i h) Q
  | 0, i, h, j, t, hi, hh, N => by
    have ei : i = nS σ := by omega
    rw [ei] at t ⊢
    rw [stJ_z (T := T) (by omega)] at t
    exact N h j t (fun _ _ => rfl)
  | n + 1, i, h, j, t, hi, hh, N => by
    have w := j.2.2.1
    have hS10 : nS σ ≤ 10 := w.2.1.2.2.2.1
    rw [el_B_isImage_90, w32_i (x := i + 1) (by omega)]
    refine zWp_it (by omega) (zWp_bv (q_moveOut w t (stB_w w) (by omega)) (fun v h1 u => ?_))
    obtain ⟨u1, u2, u3⟩ := u
    rw [stB_t] at u1
    exact q_out90 n (j.q u3) u1 (by omega) (by omega) (fun h' j' t' f' => N h' j' t' (u3.t f'))
noncomputable def jAll (σ : zH) (T : Int → Int) : Bool := allB (jOk σ T) (nC σ).toNat 0 && (allB (hOk σ T) (nHo σ).toNat 0 && allB (sOk σ T) (nS σ).toNat 0)
def jLen (σ : zH) : Int := nS σ + nHo σ + 4 * nC σ + 1
def imgOk (σ : zH) (T : Int → Int) (L : Int) : Prop := L = jLen σ ∧ T (L - 1) = chk T (L - 1).toNat 0 83 ∧ jAll σ T = true
theorem q_isImage {d : Nat} {σ st : zH} {D : zDR} {K : zKp} {Λ : zLw} {G h : zH} (c : CI σ st D K Λ G h) (wg : WG G) : zWp (m_B_isImage (d + 5) h) (fun v h' => frS 75 h h' ∧ (v = .inl 0 ∧ ¬ imgOk σ (G 1) (G 0 0) ∨ v = .inl 1 ∧ imgOk σ (G 1) (G 0 0) ∧ CT σ (stJ σ (G 1) (nS σ) (nHo σ) (nC σ)) 75 h' ∧ WT σ (stJ σ (G 1) (nS σ) (nHo σ) (nC σ)))) := by
  have b := c.1
  have ha := b.2.1.a
  have w := b.2.2.2.1
  have hn := w.n
  have hS0 : 0 ≤ nS σ := w.2.1.2.2.1
  have hS10 : nS σ ≤ 10 := w.2.1.2.2.2.1
  have hH0 : 0 ≤ nHo σ := w.2.1.2.2.2.2.1
  have hH8 : nHo σ ≤ 8 := w.2.1.2.2.2.2.2.1
  have e7 : h (h 0 7 + 8) 7 = nS σ := b.2.1.g 8 (by decide)
  have e10 : h (h 0 7 + 8) 10 = nHo σ := b.2.1.g 8 (by decide)
  have e1 : h 0 1 = G 0 0 := c.2.2.1.1.1
  have eJ : jLen σ = nS σ + nHo σ + 4 * nC σ + 1 := rfl
  have eL : w32 (w32 (w32 (nS σ + nHo σ) + w32 (4 * nC σ)) + 1) = jLen σ := by
    rw [w32_i (x := nS σ + nHo σ) (by omega), w32_i (x := 4 * nC σ) (by omega), w32_i (x := nS σ + nHo σ + 4 * nC σ) (by omega), w32_i (by omega), eJ]
  rw [em_B_isImage, e7, e10]
  refine zWp_po (by omega) (zWp_po (by omega) (zWp_it (by decide) (zWp_po (by omega) (zWp_po (by omega) (zWp_it (by decide) (zWp_po (by omega) (zWp_qi (q_cells b.2.1 w) ?_)))))))
  rw [eL, w32_i (x := jLen σ - 1) (by omega), e1]
  by_cases k1 : G 0 0 = jLen σ
  case neg => exact zWp_nt k1 (zWp_s ⟨fun _ _ => rfl, Or.inl ⟨rfl, fun z => k1 z.1⟩⟩)
  refine zWp_it k1 (zWp_nt (by omega) (zWp_it (by omega) ?_))
  have et : ∀ j, 0 ≤ j → j < jLen σ → h 1 j = G 1 j := fun j j1 j2 => c.2.2.1.1.2 j j1 (by omega)
  rw [em_B_checkOf, q_chk (by decide) (by omega) (by omega) (jLen σ - 1).toNat (k := 0) (by decide) (by omega), zqi_s, chk_cg (g := G 1) _ (fun j j1 j2 => et j j1 (by omega)), et _ (by omega) (by omega)]
  by_cases k2 : G 1 (jLen σ - 1) = chk (G 1) (jLen σ - 1).toNat 0 83
  case neg => exact zWp_nt k2 (zWp_s ⟨fun _ _ => rfl, Or.inl ⟨rfl, fun z => k2 (by have := z.2.1; rw [k1] at this; exact this)⟩⟩)
  refine zWp_it k2 (zWp_bv (q_sbegin (d := d + 2) w b.2.1 sa75) (fun _ h1 u => ?_))
  obtain ⟨t1, _, f1⟩ := u
  have j0 : JC σ (G 1) (h 0 7) h := ⟨rfl, b.2.1, w, fun j j1 j2 => ⟨et j j1 (by unfold jAt at j2; omega), wg.2.1 j j1 (by unfold jAt at j2; omega)⟩⟩
  refine q_out90 (nS σ).toNat (j0.q f1) t1 (by decide) (by omega) (fun h2 j2 t2 f2 => ?_)
  rw [el_B_isImage_90, w32_i (x := nS σ + nHo σ) (by omega), em_B_readCells]
  refine zWp_nt (by omega) ?_
  obtain ⟨v3, h3, q3, rfl, f3, t3⟩ := q_readCells2 (d := d + 2) (nC σ).toNat j2 t2 (by decide) (by omega)
  refine zWp_qi q3 ?_
  by_cases m1 : allB (jOk σ (G 1)) (nC σ).toNat 0 = true
  case neg =>
    refine zWp_it (by rw [if_neg m1]) (zWp_s ⟨(f1.t f2).t f3, Or.inl ⟨rfl, fun z => m1 ?_⟩⟩)
    have := z.2.2
    unfold jAll at this
    rw [Bool.and_eq_true] at this
    exact this.1
  rw [em_B_readHouses]
  refine zWp_nt (by rw [if_pos m1]; decide) ?_
  obtain ⟨v4, h4, q4, rfl, f4, t4⟩ := q_readHouses2 (d := d + 2) (nHo σ).toNat (j2.q f3) (t3 m1) (by decide) (by omega)
  refine zWp_qi q4 ?_
  by_cases m2 : allB (hOk σ (G 1)) (nHo σ).toNat 0 = true
  case neg =>
    refine zWp_it (by rw [if_neg m2]) (zWp_s ⟨((f1.t f2).t f3).t f4, Or.inl ⟨rfl, fun z => m2 ?_⟩⟩)
    have := z.2.2
    unfold jAll at this
    rw [Bool.and_eq_true, Bool.and_eq_true] at this
    exact this.2.1
  rw [em_B_readStones]
  refine zWp_nt (by rw [if_pos m2]; decide) ?_
  have w0 : WT σ (stJ σ (G 1) 0 (nHo σ) (nC σ)) := stJ_w0 w (fun j j1 j3 => (j2.2.2.2 j j1 j3).2.1) (fun i i1 i2 => (allB_t _ _).1 m1 i i1 (by omega)) (fun i i1 i2 => (allB_t _ _).1 m2 i i1 (by omega))
  obtain ⟨v5, h5, q5, rfl, f5, t5⟩ := q_readStones2 (d := d) (nS σ).toNat ((j2.q f3).q f4) (t4 m2) w0 (by decide) (by omega)
  refine zWp_qi q5 ?_
  have f9 := (((f1.t f2).t f3).t f4).t f5
  by_cases m3 : allB (sOk σ (G 1)) (nS σ).toNat 0 = true
  case neg =>
    refine zWp_it (by rw [if_neg m3]) (zWp_s ⟨f9, Or.inl ⟨rfl, fun z => m3 ?_⟩⟩)
    have := z.2.2
    unfold jAll at this
    rw [Bool.and_eq_true, Bool.and_eq_true] at this
    exact this.2.2
  refine zWp_nt (by rw [if_pos m3]; decide) (zWp_s ⟨f9, Or.inr ⟨rfl, ⟨k1, by rw [k1]; exact k2, ?_⟩, t5 m3⟩⟩)
  unfold jAll
  rw [m1, m2, m3]
  rfl
/-- the reference reads an image -/
def JR (σ : zH) (T : Int → Int) (h : zH) : Prop := RS σ h ∧ WS σ ∧ (∀ j, 0 ≤ j → j < jAt σ (nC σ) → h 404 j = T j ∧ 0 ≤ T j ∧ T j ≤ 255)
def arG (T : Int → Int) (i j : Int) : Bool := decide (¬ (0 < T i ∧ T i = T j))
def arF (σ : zH) (T : Int → Int) (i : Int) : Bool := decide (T i ≤ nC σ) && allB (arG T i) i.toNat 0
theorem q_Rar32 {d : Nat} {σ : zH} {T : Int → Int} {h : zH} (r : JR σ T h) {i : Int} (hi : 0 ≤ i ∧ i < nS σ) : ∀ (n : Nat) {j : Int}, 0 ≤ j → j + n = i → l_R_areStones_32 d i j h = if allB (arG T i) n j = true then l_R_areStones_2 d (i + 1) h else some (.inl 0, h)
  | 0, j, hj, hh => by
    have hS10 : nS σ ≤ 10 := r.2.1.2.1.2.2.2.1
    rw [el_R_areStones_32, zit_f (by omega), w32_i (x := i + 1) (by omega), if_pos (show allB (arG T i) 0 j = true from rfl)]
  | n + 1, j, hj, hh => by
    have hS10 : nS σ ≤ 10 := r.2.1.2.1.2.2.2.1
    have hH0 : 0 ≤ nHo σ := r.2.1.2.1.2.2.2.2.1
    have hn := r.2.1.n
    have eN : jAt σ (nC σ) = nS σ + nHo σ + 4 * nC σ := rfl
    have b0 := (r.2.2 i (by omega) (by omega)).1
    have b1 := (r.2.2 j (by omega) (by omega)).1
    rw [el_R_areStones_32, zit_t (by omega), zit_t (by omega), b0, b1, w32_i (x := j + 1) (by omega)]
    by_cases k0 : 0 < T i
    · rw [zit_t k0, zit_t (by omega), zit_t (by omega)]
      by_cases k1 : T i = T j
      · rw [zit_t k1, allB_f (f := arG T i) (i := j) (decide_eq_false (fun z => z ⟨k0, k1⟩)), if_neg (by decide)]
      · rw [zit_f k1, allB_c (f := arG T i) (i := j) (decide_eq_true (fun z => k1 z.2))]
        exact q_Rar32 r hi n (by omega) (by omega)
    · rw [zit_f k0, allB_c (f := arG T i) (i := j) (decide_eq_true (fun z => k0 z.1))]
      exact q_Rar32 r hi n (by omega) (by omega)
theorem q_Rar2 {d : Nat} {σ : zH} {T : Int → Int} {h : zH} (r : JR σ T h) : ∀ (n : Nat) {i : Int}, 0 ≤ i → i + n = nS σ → l_R_areStones_2 (d + 1) i h = some (.inl (if allB (arF σ T) n i = true then 1 else 0), h)
  | 0, i, hi, hh => by
    have hb := r.1.b
    rw [el_R_areStones_2, r.1.2.2.2.1.2.1, zit_t (by omega), zit_f (by omega)]
    rfl
  | n + 1, i, hi, hh => by
    have hb := r.1.b
    have hS10 : nS σ ≤ 10 := r.2.1.2.1.2.2.2.1
    have hH0 : 0 ≤ nHo σ := r.2.1.2.1.2.2.2.2.1
    have hn := r.2.1.n
    have eN : jAt σ (nC σ) = nS σ + nHo σ + 4 * nC σ := rfl
    have b0 := (r.2.2 i (by omega) (by omega)).1
    rw [el_R_areStones_2, r.1.2.2.2.1.2.1, zit_t (by omega), zit_t (by omega), zit_t (by omega), q_R_cells r.2.1 r.1, zqi_s, b0]
    by_cases k0 : nC σ < T i
    · rw [zit_t k0, allB_f (f := arF σ T) (i := i) (by unfold arF; rw [decide_eq_false (by omega)]; rfl)]
      rfl
    · rw [zit_f k0, q_Rar32 r (by omega) i.toNat (by decide) (by omega)]
      cases hg : allB (arG T i) i.toNat 0 with
      | true =>
        rw [if_pos rfl, allB_c (f := arF σ T) (i := i) (by unfold arF; rw [decide_eq_true (by omega), hg]; rfl)]
        exact q_Rar2 r n (by omega) (by omega)
      | false =>
        rw [if_neg (by decide), allB_f (f := arF σ T) (i := i) (by unfold arF; rw [hg, Bool.and_false])]
        rfl
def jWh (σ : zH) (T : Int → Int) (c : Int) : Prop := σ 7 c ≠ -1 ∧ T (nS σ + σ 7 c) = 0
theorem q_Rwho {d : Nat} {σ : zH} {T : Int → Int} {h : zH} (r : JR σ T h) {c : Int} (hc : 0 ≤ c ∧ c < nC σ) : ∃ x, m_R_isWholeOn (d + 2) c h = some (.inl x, h) ∧ (x = 1 ∧ jWh σ T c ∨ x = 0 ∧ ¬ jWh σ T c) := by
  have hb := r.1.b
  have hS0 : 0 ≤ nS σ := r.2.1.2.1.2.2.1
  have hS10 : nS σ ≤ 10 := r.2.1.2.1.2.2.2.1
  have hH8 : nHo σ ≤ 8 := r.2.1.2.1.2.2.2.2.2.1
  have hn := r.2.1.n
  have eN : jAt σ (nC σ) = nS σ + nHo σ + 4 * nC σ := rfl
  obtain ⟨_, _, _, _, _, _, u7, u8, _, _⟩ := r.2.1.2.2.2.1 c hc.1 hc.2
  rw [em_R_isWholeOn, q_R_houseAt r.2.1 r.1 hc, zqi_s]
  by_cases k0 : σ 7 c = -1
  · exact ⟨0, by rw [zit_t k0], Or.inr ⟨rfl, fun z => z.1 k0⟩⟩
  rw [zit_f k0, r.1.2.2.2.1.2.1, zit_t (by omega), w32_i (x := nS σ + σ 7 c) (by omega), zit_t (by omega), (r.2.2 (nS σ + σ 7 c) (by omega) (by omega)).1]
  by_cases k1 : T (nS σ + σ 7 c) = 0
  · exact ⟨1, by rw [zit_t k1], Or.inl ⟨rfl, k0, k1⟩⟩
  · exact ⟨0, by rw [zit_f k1], Or.inr ⟨rfl, fun z => k1 z.2⟩⟩
def noS (T : Int → Int) (c i : Int) : Bool := decide (¬ T i = c + 1)
theorem q_Rso2 {d : Nat} {σ : zH} {T : Int → Int} {h : zH} (r : JR σ T h) {c : Int} (hc : 0 ≤ c ∧ c < nC σ) : ∀ (n : Nat) {i : Int}, 0 ≤ i → i + n = nS σ → l_R_isStoneOn_2 d c i h = some (.inl (if allB (noS T c) n i = true then 0 else 1), h)
  | 0, i, hi, hh => by
    have hb := r.1.b
    rw [el_R_isStoneOn_2, r.1.2.2.2.1.2.1, zit_t (by omega), zit_f (by omega)]
    rfl
  | n + 1, i, hi, hh => by
    have hb := r.1.b
    have hS10 : nS σ ≤ 10 := r.2.1.2.1.2.2.2.1
    have hH0 : 0 ≤ nHo σ := r.2.1.2.1.2.2.2.2.1
    have hn := r.2.1.n
    have eN : jAt σ (nC σ) = nS σ + nHo σ + 4 * nC σ := rfl
    have b0 := (r.2.2 i (by omega) (by omega)).1
    rw [el_R_isStoneOn_2, r.1.2.2.2.1.2.1, zit_t (by omega), zit_t (by omega), zit_t (by omega), b0, w32_i (x := c + 1) (by omega), w32_i (x := i + 1) (by omega)]
    by_cases k0 : T i = c + 1
    · rw [zit_t k0, allB_f (f := noS T c) (i := i) (decide_eq_false (fun z => z k0))]
      rfl
    · rw [zit_f k0, allB_c (f := noS T c) (i := i) (decide_eq_true k0)]
      exact q_Rso2 r hc n (by omega) (by omega)
noncomputable def cOn (σ : zH) (T : Int → Int) (c : Int) : Bool := jOk σ T c && (@decide (¬ (0 < jHo σ T c ∧ jWh σ T c)) (Classical.propDecidable _) && (allB (noS T c) (nS σ).toNat 0 || @decide (¬ (0 < jHo σ T c ∨ jWh σ T c)) (Classical.propDecidable _)))
theorem cOn_t {σ : zH} {T : Int → Int} {c : Int} : cOn σ T c = true ↔ jOk σ T c = true ∧ ¬ (0 < jHo σ T c ∧ jWh σ T c) ∧ (allB (noS T c) (nS σ).toNat 0 = true ∨ ¬ (0 < jHo σ T c ∨ jWh σ T c)) := by
  unfold cOn
  rw [Bool.and_eq_true, Bool.and_eq_true, Bool.or_eq_true, @decide_eq_true_iff _ (Classical.propDecidable _), @decide_eq_true_iff _ (Classical.propDecidable _)]
theorem q_Rcell {d : Nat} {σ : zH} {T : Int → Int} {h : zH} (r : JR σ T h) {c : Int} (hc : 0 ≤ c ∧ c < nC σ) : m_R_isCellOn (d + 3) c h = some (.inl (if cOn σ T c = true then 1 else 0), h) := by
  have hb := r.1.b
  have hS0 : 0 ≤ nS σ := r.2.1.2.1.2.2.1
  have hS10 : nS σ ≤ 10 := r.2.1.2.1.2.2.2.1
  have hH0 : 0 ≤ nHo σ := r.2.1.2.1.2.2.2.2.1
  have hH8 : nHo σ ≤ 8 := r.2.1.2.1.2.2.2.2.2.1
  have hn := r.2.1.n
  have eA : jAt σ c = nS σ + nHo σ + 4 * c := rfl
  have eN : jAt σ (nC σ) = nS σ + nHo σ + 4 * nC σ := rfl
  obtain ⟨b0, b0l, b0h⟩ := r.2.2 (jAt σ c) (by omega) (by omega)
  obtain ⟨b1, b1l, b1h⟩ := r.2.2 (jAt σ c + 1) (by omega) (by omega)
  obtain ⟨b2, b2l, b2h⟩ := r.2.2 (jAt σ c + 2) (by omega) (by omega)
  obtain ⟨b3, b3l, b3h⟩ := r.2.2 (jAt σ c + 3) (by omega) (by omega)
  have x0 : w32 (w32 (nS σ + nHo σ) + w32 (4 * c)) = jAt σ c := by rw [w32_i (x := 4 * c) (by omega), w32_i (x := nS σ + nHo σ) (by omega), w32_i (by omega), eA]
  rw [em_R_isCellOn, r.1.2.2.2.1.2.1, r.1.2.2.2.1.2.2.1, x0, w32_i (x := jAt σ c + 1) (by omega), w32_i (x := jAt σ c + 2) (by omega), w32_i (x := jAt σ c + 3) (by omega), b0, b1, b2, b3, zor_by ⟨b0l, b0h⟩ ⟨b1l, b1h⟩, show 256 * T (jAt σ c) + T (jAt σ c + 1) = jHo σ T c from rfl, zit_t (by omega), zit_t (by omega), zit_t (by omega), zit_t (by omega)]
  by_cases k0 : 9999 < jHo σ T c
  · rw [zit_t k0, if_neg (fun z => by have := of_decide_eq_true (cOn_t.1 z).1; omega)]
  rw [zit_f k0, zit_t (by omega)]
  by_cases k2 : 99 < T (jAt σ c + 2)
  · rw [zit_t k2, if_neg (fun z => by have := of_decide_eq_true (cOn_t.1 z).1; omega)]
  rw [zit_f k2, zit_t (by omega)]
  by_cases k3 : 1 < T (jAt σ c + 3)
  · rw [zit_t k3, if_neg (fun z => by have := of_decide_eq_true (cOn_t.1 z).1; omega)]
  have kj : jOk σ T c = true := decide_eq_true (by omega)
  obtain ⟨x, ex, hx⟩ := q_Rwho (d := d) r hc
  have s93 : ¬ (0 < jHo σ T c ∧ jWh σ T c) → l_R_isCellOn_93 (d + 2) c (jHo σ T c) x h = some (.inl (if cOn σ T c = true then 1 else 0), h) := by
    intro hw
    rw [el_R_isCellOn_93, em_R_isStoneOn, q_Rso2 r hc (nS σ).toNat (by decide) (by omega), zqi_s]
    by_cases m : allB (noS T c) (nS σ).toNat 0 = true
    · rw [if_pos m, zit_t rfl, if_pos (cOn_t.2 ⟨kj, hw, Or.inl m⟩)]
    · rw [if_neg m, zit_f (by decide)]
      by_cases m1 : 0 < jHo σ T c
      · rw [zit_t m1, if_neg (fun z => by rcases (cOn_t.1 z).2.2 with q | q; exact m q; exact q (Or.inl m1))]
      rw [zit_f m1]
      rcases hx with ⟨rfl, m2⟩ | ⟨rfl, m2⟩
      · rw [zit_f (by decide), if_neg (fun z => by rcases (cOn_t.1 z).2.2 with q | q; exact m q; exact q (Or.inr m2))]
      · rw [zit_t rfl, if_pos (cOn_t.2 ⟨kj, hw, Or.inr (fun z => by rcases z with z | z; exact m1 z; exact m2 z)⟩)]
  rw [zit_f k3, ex, zqi_s]
  by_cases k4 : 0 < jHo σ T c
  · rw [zit_t k4]
    rcases hx with ⟨rfl, m2⟩ | ⟨rfl, m2⟩
    · rw [zit_f (by decide), if_neg (fun z => (cOn_t.1 z).2.1 ⟨k4, m2⟩)]
    · rw [zit_t rfl, s93 (fun z => m2 z.2)]
  · rw [zit_f k4, s93 (fun z => k4 z.1)]
theorem q_Rii133 {d : Nat} {σ : zH} {T : Int → Int} {h : zH} (r : JR σ T h) : ∀ (n : Nat) {c : Int}, 0 ≤ c → c + n = nC σ → l_R_isImage_133 (d + 3) c h = some (.inl (if allB (cOn σ T) n c = true then 1 else 0), h)
  | 0, c, hc, hh => by
    rw [el_R_isImage_133, q_R_cells r.2.1 r.1, zqi_s, zit_f (by omega)]
    rfl
  | n + 1, c, hc, hh => by
    have hn := r.2.1.n
    rw [el_R_isImage_133, q_R_cells r.2.1 r.1, zqi_s, zit_t (by omega), q_Rcell r (by omega), zqi_s, w32_i (x := c + 1) (by omega)]
    cases k : cOn σ T c with
    | true =>
      rw [if_pos rfl, zit_f (by decide), allB_c k]
      exact q_Rii133 r n (by omega) (by omega)
    | false =>
      rw [show (if false = true then (1 : Int) else 0) = 0 from rfl, zit_t rfl, allB_f k]
      rfl
def ho1 (σ : zH) (T : Int → Int) (i : Int) : Bool := decide (T (nS σ + i) ≤ 1)
theorem q_Rii90 {d : Nat} {σ : zH} {T : Int → Int} {h : zH} (r : JR σ T h) : ∀ (n : Nat) {i : Int}, 0 ≤ i → i + n = nHo σ → l_R_isImage_90 d i h = if allB (ho1 σ T) n i = true then l_R_isImage_133 d 0 h else some (.inl 0, h)
  | 0, i, hi, hh => by
    have hb := r.1.b
    rw [el_R_isImage_90, r.1.2.2.2.1.2.2.1, zit_t (by omega), zit_f (by omega), if_pos (show allB (ho1 σ T) 0 i = true from rfl)]
  | n + 1, i, hi, hh => by
    have hb := r.1.b
    have hS0 : 0 ≤ nS σ := r.2.1.2.1.2.2.1
    have hS10 : nS σ ≤ 10 := r.2.1.2.1.2.2.2.1
    have hH8 : nHo σ ≤ 8 := r.2.1.2.1.2.2.2.2.2.1
    have hn := r.2.1.n
    have eN : jAt σ (nC σ) = nS σ + nHo σ + 4 * nC σ := rfl
    rw [el_R_isImage_90, r.1.2.2.2.1.2.2.1, r.1.2.2.2.1.2.1, zit_t (by omega), zit_t (by omega), zit_t (by omega), w32_i (x := nS σ + i) (by omega), zit_t (by omega), (r.2.2 (nS σ + i) (by omega) (by omega)).1, w32_i (x := i + 1) (by omega)]
    by_cases k : 1 < T (nS σ + i)
    · rw [zit_t k, allB_f (f := ho1 σ T) (i := i) (decide_eq_false (by omega)), if_neg (by decide)]
    · rw [zit_f k, allB_c (f := ho1 σ T) (i := i) (decide_eq_true (by omega))]
      exact q_Rii90 r n (by omega) (by omega)
theorem q_Rii39 {d : Nat} {L : Int} {h : zH} (hL : 1 ≤ L ∧ L ≤ 1600) : ∀ (n : Nat) {k x : Int}, 0 ≤ k → k + n = L - 1 → l_R_isImage_39 d L x k h = l_R_isImage_39 d L (chk (h 404) n k x) (L - 1) h
  | 0, k, x, hk, hh => by
    rw [show k = L - 1 by omega]
    rfl
  | n + 1, k, x, hk, hh => by
    refine (el_R_isImage_39 d L x k h).trans ?_
    rw [w32_i (x := L - 1) (by omega), zit_t (by omega), zit_t (by omega), w32_i (x := k + 1) (by omega), q_Rii39 hL n (by omega) (by omega)]
    rfl
/-- both judge alike -/
theorem jEq {σ : zH} {T : Int → Int} (w : WS σ) (hb : ∀ j, 0 ≤ j → j < jAt σ (nC σ) → 0 ≤ T j ∧ T j ≤ 255) : jAll σ T = true ↔ (allB (arF σ T) (nS σ).toNat 0 = true ∧ allB (ho1 σ T) (nHo σ).toNat 0 = true ∧ allB (cOn σ T) (nC σ).toNat 0 = true) := by
  have hn := w.n
  have hS0 : 0 ≤ nS σ := w.2.1.2.2.1
  have hH0 : 0 ≤ nHo σ := w.2.1.2.2.2.2.1
  have eN : jAt σ (nC σ) = nS σ + nHo σ + 4 * nC σ := rfl
  unfold jAll
  rw [Bool.and_eq_true, Bool.and_eq_true, allB_t, allB_t, allB_t, allB_t, allB_t, allB_t]
  have sO : ∀ i, sOk σ T i = true ↔ (T i = 0 ∨ T i ≤ nC σ ∧ ¬ jBar σ T i (T i - 1)) := fun i => by unfold sOk; exact @decide_eq_true_iff _ (Classical.propDecidable _)
  constructor
  · rintro ⟨J, H, S⟩
    refine ⟨fun i i1 i2 => ?_, fun i i1 i2 => ?_, fun c c1 c2 => ?_⟩
    · have s := (sO i).1 (S i i1 i2)
      unfold arF
      rw [Bool.and_eq_true]
      refine ⟨decide_eq_true (by rcases s with z | z; omega; exact z.1), (allB_t _ _).2 (fun j j1 j2 => decide_eq_true (fun z => ?_))⟩
      rcases s with s | s
      · omega
      · refine s.2 (Or.inl (fun q => ?_))
        rcases sAt_spec σ (stJ σ T i (nHo σ) (nC σ)) (T i - 1) hS0 with ⟨_, y⟩ | ⟨y, _, _⟩
        · refine y j j1 (by omega) ?_
          rw [stJ_1, if_pos (by omega), z.2]
        · omega
    · exact decide_eq_true (of_decide_eq_true (H i i1 i2)).1
    · refine cOn_t.2 ⟨J c c1 c2, fun z => ?_, ?_⟩
      · obtain ⟨_, _, _, _, _, _, u7, u8, u9, _⟩ := w.2.2.2.1 c c1 (by omega)
        have k := of_decide_eq_true (H (σ 7 c) (by have := z.2.1; omega) (by omega))
        rw [u9 z.2.1] at k
        have := k.2 z.2.2
        omega
      · by_cases m : allB (noS T c) (nS σ).toNat 0 = true
        · exact Or.inl m
        · refine Or.inr (fun z => m ((allB_t _ _).2 (fun i i1 i2 => decide_eq_true (fun q => ?_))))
          rcases (sO i).1 (S i i1 i2) with s | s
          · omega
          · rw [show T i - 1 = c by omega] at s
            refine s.2 (Or.inr ?_)
            rcases z with z | z
            · refine Or.inl ?_
              rw [stJ_5, if_pos (by omega)]; exact z
            · obtain ⟨_, _, _, _, _, _, u7, u8, u9, _⟩ := w.2.2.2.1 c c1 (by omega)
              refine Or.inr ⟨z.1, ?_⟩
              have := z.1
              rw [stJ_9, if_pos (by omega), z.2]
              decide
  · rintro ⟨A, H, C⟩
    have cA : ∀ i, 0 ≤ i → i < nS σ → T i ≤ nC σ ∧ ∀ j, 0 ≤ j → j < i → ¬ (0 < T i ∧ T i = T j) := by
      intro i i1 i2
      have a := A i i1 (by omega)
      unfold arF at a
      rw [Bool.and_eq_true] at a
      exact ⟨of_decide_eq_true a.1, fun j j1 j2 => of_decide_eq_true ((allB_t _ _).1 a.2 j j1 (by omega))⟩
    refine ⟨fun c c1 c2 => (cOn_t.1 (C c c1 c2)).1, fun i i1 i2 => decide_eq_true ⟨of_decide_eq_true (H i i1 i2), fun z => ?_⟩, fun i i1 i2 => (sO i).2 ?_⟩
    · have h17 := w.2.2.2.2.2.1 i i1 (by omega)
      have k := (cOn_t.1 (C (σ 17 i) h17.2.2.1 (by omega))).2.1
      by_cases q : 0 < jHo σ T (σ 17 i)
      · refine absurd ⟨q, ?_, ?_⟩ k
        · rw [h17.2.2.2.2]; omega
        · rw [h17.2.2.2.2]; exact z
      · omega
    · by_cases z : T i = 0
      · exact Or.inl z
      · have bi := hb i (by omega) (by omega)
        have ci := cA i i1 (by omega)
        refine Or.inr ⟨ci.1, fun q => ?_⟩
        have k := (cOn_t.1 (C (T i - 1) (by omega) (by omega))).2.2
        have nk : ¬ (0 < jHo σ T (T i - 1) ∨ jWh σ T (T i - 1)) := by
          rcases k with k | k
          · exact absurd (by omega) (of_decide_eq_true ((allB_t _ _).1 k i i1 i2))
          · exact k
        rcases q with q | q | q
        · rcases sAt_spec σ (stJ σ T i (nHo σ) (nC σ)) (T i - 1) hS0 with ⟨y, _⟩ | ⟨y1, y2, y3⟩
          · exact q y
          · rw [stJ_1] at y3
            by_cases e : 0 ≤ sAt σ (stJ σ T i (nHo σ) (nC σ)) (T i - 1) ∧ sAt σ (stJ σ T i (nHo σ) (nC σ)) (T i - 1) < i
            · rw [if_pos e] at y3
              exact ci.2 _ e.1 e.2 ⟨by omega, by omega⟩
            · rw [if_neg e] at y3
              omega
        · rw [stJ_5, if_pos (by omega)] at q
          exact nk (Or.inl q)
        · obtain ⟨_, _, _, _, _, _, u7, u8, u9, _⟩ := w.2.2.2.1 (T i - 1) (by omega) (by omega)
          have q1 := q.1
          have q2 := q.2
          rw [stJ_9, if_pos (by omega)] at q2
          have := of_decide_eq_true (H (σ 7 (T i - 1)) (by omega) (by omega))
          have := hb (nS σ + σ 7 (T i - 1)) (by omega) (by omega)
          exact nk (Or.inr ⟨q1, by omega⟩)
theorem q_R_isImage {d : Nat} {σ G h : zH} (g : RS σ h) (w : WS σ) (wg : WG G) (ht : ∀ j, 0 ≤ j → j < G 0 0 → h 404 j = G 1 j) : ∃ y, m_R_isImage (d + 5) (G 0 0) h = some (.inl y, h) ∧ (y = 1 ∧ imgOk σ (G 1) (G 0 0) ∨ y = 0 ∧ ¬ imgOk σ (G 1) (G 0 0)) := by
  have hb := g.b
  have hn := w.n
  have hS0 : 0 ≤ nS σ := w.2.1.2.2.1
  have hS10 : nS σ ≤ 10 := w.2.1.2.2.2.1
  have hH0 : 0 ≤ nHo σ := w.2.1.2.2.2.2.1
  have hH8 : nHo σ ≤ 8 := w.2.1.2.2.2.2.2.1
  have eJ : jLen σ = nS σ + nHo σ + 4 * nC σ + 1 := rfl
  have eN : jAt σ (nC σ) = nS σ + nHo σ + 4 * nC σ := rfl
  have eL : w32 (w32 (w32 (nS σ + nHo σ) + w32 (4 * nC σ)) + 1) = jLen σ := by
    rw [w32_i (x := nS σ + nHo σ) (by omega), w32_i (x := 4 * nC σ) (by omega), w32_i (x := nS σ + nHo σ + 4 * nC σ) (by omega), w32_i (by omega), eJ]
  rw [em_R_isImage, g.2.2.2.1.2.1, g.2.2.2.1.2.2.1, zit_t (by omega), zit_t (by omega), q_R_cells w g, zqi_s, eL]
  by_cases k1 : G 0 0 = jLen σ
  case neg => exact ⟨0, by rw [zit_f k1], Or.inr ⟨rfl, fun z => k1 z.1⟩⟩
  have ht' : ∀ j, 0 ≤ j → j < jLen σ → h 404 j = G 1 j := fun j j1 j2 => ht j j1 (by omega)
  have r : JR σ (G 1) h := ⟨g, w, fun j j1 j2 => ⟨ht' j j1 (by omega), wg.2.1 j j1 (by omega)⟩⟩
  unfold imgOk
  rw [zit_t k1, k1, q_Rii39 (by omega) (jLen σ - 1).toNat (by decide) (by omega), el_R_isImage_39, w32_i (x := jLen σ - 1) (by omega), zit_f (by omega), zit_t (by omega), chk_cg (g := G 1) _ (fun j j1 j2 => ht' j j1 (by omega)), ht' _ (by omega) (by omega)]
  by_cases k2 : G 1 (jLen σ - 1) = chk (G 1) (jLen σ - 1).toNat 0 83
  case neg => exact ⟨0, by rw [zit_f k2], Or.inr ⟨rfl, fun z => k2 z.2.1⟩⟩
  rw [zit_t k2, em_R_areStones, q_Rar2 r (nS σ).toNat (by decide) (by omega), zqi_s]
  have je := jEq w (fun j j1 j2 => (r.2.2 j j1 j2).2)
  by_cases m1 : allB (arF σ (G 1)) (nS σ).toNat 0 = true
  case neg => exact ⟨0, by rw [if_neg m1, zit_t rfl], Or.inr ⟨rfl, fun z => m1 (je.1 z.2.2).1⟩⟩
  rw [if_pos m1, zit_f (by decide), q_Rii90 r (nHo σ).toNat (by decide) (by omega)]
  by_cases m2 : allB (ho1 σ (G 1)) (nHo σ).toNat 0 = true
  case neg => exact ⟨0, by rw [if_neg m2], Or.inr ⟨rfl, fun z => m2 (je.1 z.2.2).2.1⟩⟩
  rw [if_pos m2, q_Rii133 r (nC σ).toNat (by decide) (by omega)]
  by_cases m3 : allB (cOn σ (G 1)) (nC σ).toNat 0 = true
  · exact ⟨1, by rw [if_pos m3], Or.inl ⟨rfl, rfl, k2, je.2 ⟨m1, m2, m3⟩⟩⟩
  · exact ⟨0, by rw [if_neg m3], Or.inr ⟨rfl, fun z => m3 (je.1 z.2.2).2.2⟩⟩
theorem JR.fr {σ : zH} {T : Int → Int} {h h' : zH} (r : JR σ T h) (h0 : h' 403 12 = h 403 12) (hr : ∀ q, 404 ≤ q → q ≤ 429 ∨ q = 454 ∨ q = 455 → h' q = h q) : JR σ T h' :=
  ⟨r.1.fr h0 (fun q q1 q2 => hr q (by omega) q2), r.2.1, fun j j1 j2 => by rw [hr 404 (by decide) (by decide)]; exact r.2.2 j j1 j2⟩
theorem q_Ron34 {d : Nat} {σ : zH} {T : Int → Int} {Q : zV → zH → Prop} : ∀ (n : Nat) {i : Int} {h : zH}, JR σ T h → 0 ≤ i → i + n = nS σ → (∀ h', JR σ T h' → (∀ j, i ≤ j → j < nS σ → h' 444 j = T j - 1) → (∀ j, j < i ∨ nS σ ≤ j → h' 444 j = h 444 j) → (∀ r, ¬ r = 444 → h' r = h r) → zWp (l_R_on_69 d 0 h') Q) → zWp (l_R_on_34 d i h) Q
  | 0, i, h, r, hi, hh, N => by
    have hb := r.1.b
    rw [el_R_on_34, r.1.2.2.2.1.2.1]
    exact zWp_it (by omega) (zWp_nt (by omega) (N h r (fun j j1 j2 => by omega) (fun _ _ => rfl) (fun _ _ => rfl)))
  | n + 1, i, h, r, hi, hh, N => by
    have hb := r.1.b
    have hS10 : nS σ ≤ 10 := r.2.1.2.1.2.2.2.1
    have hH0 : 0 ≤ nHo σ := r.2.1.2.1.2.2.2.2.1
    have hn := r.2.1.n
    have eN : jAt σ (nC σ) = nS σ + nHo σ + 4 * nC σ := rfl
    obtain ⟨b0, b1, b2⟩ := r.2.2 i (by omega) (by omega)
    rw [el_R_on_34, r.1.2.2.2.1.2.1, b0, w32_i (x := T i - 1) (by omega), w32_i (x := i + 1) (by omega)]
    refine zWp_it (by omega) (zWp_it (by omega) (zWp_it (by omega) (zWp_it (by omega) (zWp_lt fun h1 e1 => ?_))))
    have o1 : ∀ q, ¬ q = 444 → h1 q = h q := fun q hq => by rw [e1, zset_n hq]
    refine q_Ron34 n (r.fr (by rw [o1 403 (by decide)]) (fun q q1 q2 => o1 q (by omega))) (by omega) (by omega) (fun h' r' p1 p2 p3 => N h' r' (fun j j1 j2 => ?_) (fun j j1 => ?_) (fun q hq => (p3 q hq).trans (o1 q hq)))
    · by_cases e : j = i
      · rw [p2 j (by omega), e1, e, zset_e]
      · exact p1 j (by omega) j2
    · rw [p2 j (by omega), e1, zset_j (by omega)]
theorem q_Ron69 {d : Nat} {σ : zH} {T : Int → Int} {Q : zV → zH → Prop} : ∀ (n : Nat) {i : Int} {h : zH}, JR σ T h → 0 ≤ i → i + n = nHo σ → (∀ h', JR σ T h' → (∀ j, i ≤ j → j < nHo σ → h' 447 j = T (nS σ + j)) → (∀ j, j < i ∨ nHo σ ≤ j → h' 447 j = h 447 j) → (∀ r, ¬ r = 447 → h' r = h r) → zWp (l_R_on_112 d 0 h') Q) → zWp (l_R_on_69 d i h) Q
  | 0, i, h, r, hi, hh, N => by
    have hb := r.1.b
    rw [el_R_on_69, r.1.2.2.2.1.2.2.1]
    exact zWp_it (by omega) (zWp_nt (by omega) (N h r (fun j j1 j2 => by omega) (fun _ _ => rfl) (fun _ _ => rfl)))
  | n + 1, i, h, r, hi, hh, N => by
    have hb := r.1.b
    have hS0 : 0 ≤ nS σ := r.2.1.2.1.2.2.1
    have hS10 : nS σ ≤ 10 := r.2.1.2.1.2.2.2.1
    have hH8 : nHo σ ≤ 8 := r.2.1.2.1.2.2.2.2.2.1
    have hn := r.2.1.n
    have eN : jAt σ (nC σ) = nS σ + nHo σ + 4 * nC σ := rfl
    obtain ⟨b0, b1, b2⟩ := r.2.2 (nS σ + i) (by omega) (by omega)
    rw [el_R_on_69, r.1.2.2.2.1.2.2.1, r.1.2.2.2.1.2.1, w32_i (x := nS σ + i) (by omega), b0, w32_i (x := i + 1) (by omega)]
    refine zWp_it (by omega) (zWp_it (by omega) (zWp_it (by omega) (zWp_it (by omega) (zWp_it (by omega) (zWp_lt fun h1 e1 => ?_)))))
    have o1 : ∀ q, ¬ q = 447 → h1 q = h q := fun q hq => by rw [e1, zset_n hq]
    refine q_Ron69 n (r.fr (by rw [o1 403 (by decide)]) (fun q q1 q2 => o1 q (by omega))) (by omega) (by omega) (fun h' r' p1 p2 p3 => N h' r' (fun j j1 j2 => ?_) (fun j j1 => ?_) (fun q hq => (p3 q hq).trans (o1 q hq)))
    · by_cases e : j = i
      · rw [p2 j (by omega), e1, e, zset_e]
      · exact p1 j (by omega) j2
    · rw [p2 j (by omega), e1, zset_j (by omega)]
theorem q_Ron112 {d : Nat} {σ : zH} {T : Int → Int} {Q : zV → zH → Prop} : ∀ (n : Nat) {c : Int} {h : zH}, JR σ T h → 0 ≤ c → c + n = nC σ → (∀ h', JR σ T h' → (∀ j, c ≤ j → j < nC σ → h' 448 j = jHo σ T j ∧ h' 449 j = T (jAt σ j + 2) ∧ h' 450 j = T (jAt σ j + 3)) → (∀ j, j < c ∨ nC σ ≤ j → h' 448 j = h 448 j ∧ h' 449 j = h 449 j ∧ h' 450 j = h 450 j) → (∀ r, ¬ (r = 448 ∨ r = 449 ∨ r = 450) → h' r = h r) → zWp (zqv (m_R_cleans (d + 1) 0 h') fun h3 => some ((.inl 1), h3)) Q) → zWp (l_R_on_112 (d + 1) c h) Q
  | 0, c, h, r, hi, hh, N => by
    rw [el_R_on_112]
    exact zWp_qi (q_R_cells r.2.1 r.1) (zWp_nt (by omega) (N h r (fun j j1 j2 => by omega) (fun _ _ => ⟨rfl, rfl, rfl⟩) (fun _ _ => rfl)))
  | n + 1, c, h, r, hi, hh, N => by
    have hb := r.1.b
    have hS0 : 0 ≤ nS σ := r.2.1.2.1.2.2.1
    have hS10 : nS σ ≤ 10 := r.2.1.2.1.2.2.2.1
    have hH0 : 0 ≤ nHo σ := r.2.1.2.1.2.2.2.2.1
    have hH8 : nHo σ ≤ 8 := r.2.1.2.1.2.2.2.2.2.1
    have hn := r.2.1.n
    have eA : jAt σ c = nS σ + nHo σ + 4 * c := rfl
    have eN : jAt σ (nC σ) = nS σ + nHo σ + 4 * nC σ := rfl
    obtain ⟨b0, b0l, b0h⟩ := r.2.2 (jAt σ c) (by omega) (by omega)
    obtain ⟨b1, b1l, b1h⟩ := r.2.2 (jAt σ c + 1) (by omega) (by omega)
    obtain ⟨b2, b2l, b2h⟩ := r.2.2 (jAt σ c + 2) (by omega) (by omega)
    obtain ⟨b3, b3l, b3h⟩ := r.2.2 (jAt σ c + 3) (by omega) (by omega)
    have x0 : w32 (w32 (nS σ + nHo σ) + w32 (4 * c)) = jAt σ c := by rw [w32_i (x := 4 * c) (by omega), w32_i (x := nS σ + nHo σ) (by omega), w32_i (by omega), eA]
    rw [el_R_on_112]
    refine zWp_qi (q_R_cells r.2.1 r.1) ?_
    rw [r.1.2.2.2.1.2.1, r.1.2.2.2.1.2.2.1, x0, w32_i (x := jAt σ c + 1) (by omega), w32_i (x := jAt σ c + 2) (by omega), w32_i (x := jAt σ c + 3) (by omega), b0, b1, zor_by ⟨b0l, b0h⟩ ⟨b1l, b1h⟩, w32_i (x := c + 1) (by omega)]
    refine zWp_it (by omega) (zWp_it (by omega) (zWp_it (by omega) (zWp_it (by omega) (zWp_it (by omega) (zWp_it (by omega) (zWp_lt fun h4 e4 => zWp_it (by omega) (zWp_it (by omega) (zWp_lt fun h5 e5 => zWp_it (by omega) (zWp_it (by omega) (zWp_lt fun h6 e6 => ?_))))))))))
    have o6 : ∀ q, ¬ (q = 448 ∨ q = 449 ∨ q = 450) → h6 q = h q := fun q hq => by rw [e6, zset_n (by omega), e5, zset_n (by omega), e4, zset_n (by omega)]
    have m1 : h6 448 = zset h 448 c (jHo σ T c) 448 := by rw [e6, zset_n (by decide), e5, zset_n (by decide), e4]; rfl
    have m2 : h6 449 = zset h 449 c (T (jAt σ c + 2)) 449 := by
      rw [e6, zset_n (by decide), e5]
      funext q
      rw [zset_g, zset_g, e4, zset_o (by decide), zset_o (by decide), b2]
    have m3 : h6 450 = zset h 450 c (T (jAt σ c + 3)) 450 := by
      rw [e6]
      funext q
      rw [zset_g, zset_g, e5, zset_o (by decide), zset_o (by decide), e4, zset_o (by decide), zset_o (by decide), b3]
    refine q_Ron112 n (r.fr (by rw [o6 403 (by decide)]) (fun q q1 q2 => o6 q (by omega))) (by omega) (by omega) (fun h' r' p1 p2 p3 => N h' r' (fun j j1 j2 => ?_) (fun j j1 => ?_) (fun q hq => (p3 q hq).trans (o6 q hq)))
    · by_cases e : j = c
      · obtain ⟨y1, y2, y3⟩ := p2 j (by omega)
        rw [y1, y2, y3, m1, m2, m3, e, zset_e, zset_e, zset_e]
        exact ⟨rfl, rfl, rfl⟩
      · exact p1 j (by omega) j2
    · obtain ⟨y1, y2, y3⟩ := p2 j (by omega)
      rw [y1, y2, y3, m1, m2, m3, zset_j (by omega), zset_j (by omega), zset_j (by omega)]
      exact ⟨rfl, rfl, rfl⟩
theorem q_Rcl40 {d : Nat} : ∀ (n : Nat) {k : Int} {h : zH}, 0 ≤ k → k + n = 6 → zWp (l_R_cleans_40 d 0 k h) (fun _ h' => (∀ o, k ≤ o → o < 6 → h' 451 o = 0) ∧ (∀ o, o < k ∨ 6 ≤ o → h' 451 o = h 451 o) ∧ (h' 452 0 = 0 ∧ ∀ u, ¬ u = 0 → h' 452 u = h 452 u) ∧ (h' 403 69 = 0 ∧ ∀ q, ¬ q = 69 → h' 403 q = h 403 q) ∧ ∀ r, ¬ (r = 451 ∨ r = 452 ∨ r = 403) → h' r = h r)
  | 0, k, h, hk, hh => by
    rw [el_R_cleans_40]
    refine zWp_nt (by omega) (zWp_it (by decide) (zWp_lt fun h1 e1 => zWp_lt fun h2 e2 => zWp_s ⟨fun o o1 o2 => by omega, fun o _ => ?_, ⟨?_, fun u hu => ?_⟩, ⟨?_, fun q hq => ?_⟩, fun r hr => ?_⟩))
    · rw [e2, zset_o (by decide), e1, zset_o (by decide)]
    · rw [e2, zset_o (by decide), e1, zset_e]
    · rw [e2, zset_o (by decide), e1, zset_j hu]
    · rw [e2, zset_e]
    · rw [e2, zset_j hq, e1, zset_o (by decide)]
    · rw [e2, zset_n (by omega), e1, zset_n (by omega)]
  | n + 1, k, h, hk, hh => by
    rw [el_R_cleans_40, show w32 (w32 (6 * 0) + k) = k by rw [show w32 (6 * 0) = 0 from rfl, w32_i (by omega), Int.zero_add], w32_i (x := k + 1) (by omega)]
    refine zWp_it (by omega) (zWp_it (by omega) (zWp_lt fun h1 e1 => zWp_m (q_Rcl40 n (by omega) (by omega)) (fun v h' u => ?_)))
    obtain ⟨u1, u2, u3, u4, u5⟩ := u
    refine ⟨fun o o1 o2 => ?_, fun o o1 => ?_, ⟨u3.1, fun u hu => ?_⟩, ⟨u4.1, fun q hq => ?_⟩, fun r hr => ?_⟩
    · by_cases e : o = k
      · rw [u2 o (by omega), e1, e, zset_e]
      · exact u1 o (by omega) o2
    · rw [u2 o (by omega), e1, zset_j (by omega)]
    · rw [u3.2 u hu, e1, zset_o (by decide)]
    · rw [u4.2 q hq, e1, zset_o (by decide)]
    · rw [u5 r hr, e1, zset_n (by omega)]
def ClP (k : Int) (h h' : zH) : Prop := (∀ i, k ≤ i → i < 10 → h' 445 i = 0 ∧ h' 446 i = 0) ∧ (∀ i, i < k ∨ 10 ≤ i → h' 445 i = h 445 i ∧ h' 446 i = h 446 i) ∧ (∀ o, 0 ≤ o → o < 6 → h' 451 o = 0) ∧ (∀ o, o < 0 ∨ 6 ≤ o → h' 451 o = h 451 o) ∧ (h' 452 0 = 0 ∧ ∀ u, ¬ u = 0 → h' 452 u = h 452 u) ∧ (h' 403 69 = 0 ∧ ∀ q, ¬ q = 69 → h' 403 q = h 403 q) ∧ ∀ r, ¬ (r = 445 ∨ r = 446 ∨ r = 451 ∨ r = 452 ∨ r = 403) → h' r = h r
theorem q_Rcl2 {d : Nat} : ∀ (n : Nat) {k : Int} {h : zH}, 0 ≤ k → k + n = 10 → zWp (l_R_cleans_2 d 0 k h) (fun _ h' => ClP k h h')
  | 0, k, h, hk, hh => by
    rw [el_R_cleans_2]
    refine zWp_nt (by omega) (zWp_m (q_Rcl40 6 (by decide) (by decide)) (fun v h' u => ?_))
    obtain ⟨u1, u2, u3, u4, u5⟩ := u
    exact ⟨fun i i1 i2 => by omega, fun i _ => by rw [u5 445 (by decide), u5 446 (by decide)]; exact ⟨rfl, rfl⟩, u1, u2, u3, u4, fun r hr => u5 r (by omega)⟩
  | n + 1, k, h, hk, hh => by
    rw [el_R_cleans_2, show w32 (w32 (10 * 0) + k) = k by rw [show w32 (10 * 0) = 0 from rfl, w32_i (by omega), Int.zero_add], w32_i (x := k + 1) (by omega)]
    refine zWp_it (by omega) (zWp_it (by omega) (zWp_lt fun h1 e1 => zWp_it (by omega) (zWp_lt fun h2 e2 => zWp_m (q_Rcl2 n (by omega) (by omega)) (fun v h' u => ?_))))
    obtain ⟨u1, u2, u3, u4, u5, u6, u7⟩ := u
    refine ⟨fun i i1 i2 => ?_, fun i i1 => ?_, u3, fun o ho => ?_, ⟨u5.1, fun u hu => ?_⟩, ⟨u6.1, fun q hq => ?_⟩, fun r hr => ?_⟩
    · by_cases e : i = k
      · obtain ⟨y1, y2⟩ := u2 i (by omega)
        rw [y1, y2, e2, zset_o (by decide), e1, e, zset_e, zset_e]
        exact ⟨rfl, rfl⟩
      · exact u1 i (by omega) i2
    · obtain ⟨y1, y2⟩ := u2 i (by omega)
      rw [y1, y2, e2, zset_o (by decide), zset_j (by omega), e1, zset_j (by omega), zset_o (by decide)]
      exact ⟨rfl, rfl⟩
    · rw [u4 o ho, e2, zset_o (by decide), e1, zset_o (by decide)]
    · rw [u5.2 u hu, e2, zset_o (by decide), e1, zset_o (by decide)]
    · rw [u6.2 q hq, e2, zset_o (by decide), e1, zset_o (by decide)]
    · rw [u7 r hr, e2, zset_n (by omega), e1, zset_n (by omega)]
theorem frS75 {h h' : zH} (f : frS 75 h h') : frQ h h' := fun r hr => f r (by omega)
theorem a_on {d : Nat} {h : zH} (i : INV h) : Alike (m_B_on (d + 6) h) (m_R_on (d + 6)) := by
  obtain ⟨σ, st, D, K, Λ, G, c, r, wk, wg⟩ := i
  have w := c.1.2.2.2.1
  have hn := w.n
  have hS0 : 0 ≤ nS σ := w.2.1.2.2.1
  have hS10 : nS σ ≤ 10 := w.2.1.2.2.2.1
  have hH0 : 0 ≤ nHo σ := w.2.1.2.2.2.2.1
  have hH8 : nHo σ ≤ 8 := w.2.1.2.2.2.2.2.1
  have wg0 := wg.tl (x := 0) (by have := wg.1.1; omega)
  have eJ : jLen σ = nS σ + nHo σ + 4 * nC σ + 1 := rfl
  have eN : jAt σ (nC σ) = nS σ + nHo σ + 4 * nC σ := rfl
  obtain ⟨v1, h1, e1, f1, o1⟩ := q_isImage (d := d) c wg
  have c1 := (c.q (frS75 f1)).tl (x := 0) (by have := wg.1.1; omega)
  have hR : ∀ h', RI σ st D K Λ G h' → ∃ y, m_R_isImage (d + 5) (h' 403 1) (zset h' 403 1 0) = some (.inl y, zset h' 403 1 0) ∧ (y = 1 ∧ imgOk σ (G 1) (G 0 0) ∨ y = 0 ∧ ¬ imgOk σ (G 1) (G 0 0)) := by
    intro h' r'
    rw [r'.2.1.1.1]
    exact q_R_isImage (r'.tl (x := 0) (by have := wg.1.1; omega)).1.1 w wg (fun j j1 j2 => by rw [zset_o (by decide)]; exact r'.2.1.1.2 j j1 j2)
  by_cases k : imgOk σ (G 1) (G 0 0)
  case neg =>
    refine alike (V := .inl 0) (st := st) (Λ := Λ) (h := h) wk (wg0.ref (k := 5)) (fun h' f => ?_) ?_
    · have r' := r.hi f
      obtain ⟨y, ey, hy⟩ := hR h' r'
      have y0 : y = 0 := by
        rcases hy with ⟨_, z⟩ | ⟨z, _⟩
        · exact absurd z k
        · exact z
      rw [em_R_on]
      refine zWp_lt fun h2 e2 => ?_
      rw [← e2] at ey
      refine zWp_qi ey (zWp_it y0 (zWp_qi (q_R_refuses (by decide)) (zWp_it (by decide) (zWp_s ⟨rfl, ?_, fun q hq => by rw [zset_n (by omega), e2, zset_n (by omega)]⟩))))
      rw [e2]
      exact (r'.tl (x := 0) (by have := wg.1.1; omega)).ref (by decide)
    · have y0 : v1 = .inl 0 := by
        rcases o1 with ⟨z, _⟩ | ⟨_, z, _⟩
        · exact z
        · exact absurd z k
      rw [y0] at e1
      rw [em_B_on]
      refine zWp_qi e1 (zWp_lt fun h3 e3 => zWp_it rfl (zWp_qi (q_refuse (by decide)) (zWp_s ⟨rfl, ?_, fun q hq => ?_⟩)))
      · rw [e3]; exact c1.ref (by decide)
      · rw [zset_n (by omega), e3, zset_n (by omega), f1 q (by omega)]
  have kk := k
  obtain ⟨k1, k2, k3⟩ := k
  rcases o1 with ⟨_, z⟩ | ⟨z, _, t1, wt⟩
  · exact absurd kk z
  rw [z] at e1
  refine alike (V := .inl 1) (st := stJ σ (G 1) (nS σ) (nHo σ) (nC σ)) (D := []) (K := []) (Λ := Λ) (σ := σ) (h := h) trivial wg0 (fun h' f => ?_) ?_
  · have r' := r.hi f
    obtain ⟨y, ey, hy⟩ := hR h' r'
    have y0 : y = 1 := by
      rcases hy with ⟨z, _⟩ | ⟨_, z⟩
      · exact z
      · exact absurd kk z
    rw [y0] at ey
    rw [em_R_on]
    refine zWp_lt fun h2 e2 => ?_
    rw [← e2] at ey
    have r2 := r'.tl (x := 0) (by have := wg.1.1; omega)
    rw [← e2] at r2
    have et : h2 404 = h' 404 := by rw [e2, zset_n (by decide)]
    have j2 : JR σ (G 1) h2 := ⟨r2.1.1, w, fun j j1 j3 => ⟨by rw [et]; exact r'.2.1.1.2 j j1 (by omega), wg.2.1 j j1 (by omega)⟩⟩
    refine zWp_qi ey (zWp_nt (by decide) (q_Ron34 (nS σ).toNat j2 (by decide) (by omega) (fun h3 j3 a1 a2 a3 => q_Ron69 (nHo σ).toNat j3 (by decide) (by omega) (fun h4 j4 b1 b2 b3 => q_Ron112 (nC σ).toNat j4 (by decide) (by omega) (fun h5 j5 s1 s2 s3 => ?_)))))
    rw [em_R_cleans]
    refine zWp_bv (q_Rcl2 10 (by decide) (by decide)) (fun v h6 u => zWp_s ⟨rfl, ?_, fun q hq => ?_⟩)
    · obtain ⟨u1, u2, u3, u4, u5, u6, u7⟩ := u
      have o5 : ∀ q, ¬ (q = 444 ∨ q = 447 ∨ q = 448 ∨ q = 449 ∨ q = 450) → h5 q = h2 q := fun q hq => by rw [s3 q (by omega), b3 q (by omega), a3 q (by omega)]
      have o6 : ∀ q, ¬ (q = 403 ∨ 444 ≤ q ∧ q ≤ 452) → h6 q = h2 q := fun q hq => by rw [u7 q (by omega), o5 q (by omega)]
      have m6 : ∀ q, ¬ q = 69 → h6 403 q = h2 403 q := fun q hq => by rw [u6.2 q hq, o5 403 (by decide)]
      obtain ⟨g1, g2, g3, g4, g5, g6⟩ := r2
      refine ⟨⟨g1.1.fr (m6 12 (by decide)) (fun q q1 q2 => o6 q (by omega)), ⟨by decide, fun i i1 i2 => ⟨?_, ?_, ?_⟩, fun i i1 i2 => ?_, fun i i1 i2 => ⟨?_, ?_, ?_⟩⟩, w, wt⟩, g2.fr (fun q z => m6 q (by omega)) (fun q z => o6 q (by omega)), ⟨fun o o1 o2 => ?_, ⟨u5.1, show ((0 : Nat) : Int) ≤ 99 by decide⟩, fun j x hj => by cases hj⟩, ⟨⟨u6.1, by decide⟩, by rw [m6 68 (by decide)]; exact g4.2.1, fun j x hj => by cases hj⟩, fun d => (g5 d).fr (m6 12 (by decide)) (fun q q1 q2 => o6 q (by omega)), g6.fr (m6 12 (by decide)) (fun q z => o6 q (by omega))⟩
      · rw [show 10 * 0 + i = i by omega, u7 444 (by decide), s3 444 (by decide), b3 444 (by decide), a1 i i1 i2, stJ_1, if_pos ⟨i1, i2⟩]
      · rw [show 10 * 0 + i = i by omega, (u1 i i1 (by omega)).1, stJ_o (by decide) (by decide) (by decide) (by decide) (by decide)]; rfl
      · rw [show 10 * 0 + i = i by omega, (u1 i i1 (by omega)).2, stJ_o (by decide) (by decide) (by decide) (by decide) (by decide)]; rfl
      · rw [show 8 * 0 + i = i by omega, u7 447 (by decide), s3 447 (by decide), b1 i i1 i2, stJ_9, if_pos ⟨i1, i2⟩]
      · rw [show 60 * 0 + i = i by omega, u7 448 (by decide), (s1 i i1 i2).1, stJ_5, if_pos ⟨i1, i2⟩]
      · rw [show 60 * 0 + i = i by omega, u7 449 (by decide), (s1 i i1 i2).2.1, stJ_6, if_pos ⟨i1, i2⟩]
      · rw [show 60 * 0 + i = i by omega, u7 450 (by decide), (s1 i i1 i2).2.2, stJ_8, if_pos ⟨i1, i2⟩]
      · show h6 451 o = w64 (stJ σ (G 1) (nS σ) (nHo σ) (nC σ) 7 o)
        rw [u3 o o1 o2, stJ_o (by decide) (by decide) (by decide) (by decide) (by decide)]; rfl
    · rw [u.2.2.2.2.2.2 q (by omega), s3 q (by omega), b3 q (by omega), a3 q (by omega), e2, zset_n (by omega)]
  · rw [em_B_on]
    refine zWp_qi e1 (zWp_lt fun h3 e3 => zWp_nt (by decide) ?_)
    have t3 : CT σ (stJ σ (G 1) (nS σ) (nHo σ) (nC σ)) 75 h3 := t1.fr (fun q q1 q2 => by rw [e3, zset_n (by omega)])
    refine zWp_bv (q_copyT (d := d + 4) (T := 67) w (by unfold SA; omega) (by decide) t3) (fun _ h4 u => ?_)
    obtain ⟨t4, _, f4⟩ := u
    have ef : ∀ h5, m_NetSearch_forget (d + 4) 331 h5 = some (.inl 0, zset h5 331 4 0) := fun h5 => by rw [em_NetSearch_forget, zpo_t (by decide), zlt_e]
    rw [em_B_forgetActs]
    refine zWp_bv (P := fun _ h6 => h6 = zset (zset h4 84 2 0) 331 4 0) (zWp_lt fun h5 e5 => zWp_qv (ef h5) (zWp_s (by rw [e5]))) (fun _ h6 e6 => zWp_s ⟨rfl, ?_, fun q hq => ?_⟩)
    · rw [← e3] at c1
      have o6 : ∀ q, ¬ (67 ≤ q ∧ q < 75 ∨ q = 84 ∨ q = 331) → h6 q = h3 q := fun q hq => by rw [e6, zset_n (by omega), zset_n (by omega), f4 q (by omega)]
      have n6 : ∀ q, 67 ≤ q → q < 75 → h6 q = h4 q := fun q q1 q2 => by rw [e6, zset_n (by omega), zset_n (by omega)]
      have e0 : h6 0 = h3 0 := o6 0 (by decide)
      have t6 : CT σ (stJ σ (G 1) (nS σ) (nHo σ) (nC σ)) 67 h6 := t4.fr (fun q q1 q2 => n6 q q1 (by omega))
      obtain ⟨g1, g2, g3, g4, g5, g6, g7, g8⟩ := c1
      have ha := g1.2.1.a
      refine ⟨⟨rfl, ?_, t6, w, wt⟩, by rw [e0]; exact g2, g3.fr (fun q z => o6 q (by omega)), g4.fr (fun q z => o6 q (by omega)), ⟨⟨?_, by decide⟩, fun j x hj => by cases hj⟩, ⟨⟨?_, by decide⟩, ?_, fun j x hj => by cases hj⟩, Or.inl ?_, ?_⟩
      · rw [e0]; exact g1.2.1.fr (fun q q1 q2 => o6 q (by omega))
      · rw [t6.2.2.2.2.2.2.2, stJ_o (by decide) (by decide) (by decide) (by decide) (by decide)]; rfl
      · rw [e6, zset_o (by decide), zset_e]; rfl
      · rw [e6, zset_o (by decide), zset_j (by decide), f4 84 (by decide)]; exact g6.2.1
      · rw [e6, zset_e]
      · rw [e0]; exact g8.fr (fun q q1 q2 => o6 q (by omega)) (fun q _ => by rw [o6 _ (by omega)])
    · rw [e6, zset_n (by omega), zset_n (by omega), f4 q (by omega), e3, zset_n (by omega), f1 q (by omega)]
