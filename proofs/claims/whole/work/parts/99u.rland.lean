/-! land, in the reference -/
theorem cw {w c x y : Int} (hw : 0 < w) (hx : 0 ≤ x ∧ x < w) : c = y * w + x ↔ c / w = y ∧ c % w = x := by
  constructor
  · intro e
    have e1 : c / w = y := by rw [e, Int.add_comm, Int.add_mul_ediv_right _ _ (by omega), Int.ediv_eq_zero_of_lt hx.1 hx.2, Int.zero_add]
    refine ⟨e1, ?_⟩
    rw [Int.emod_def, e1, e, Int.mul_comm w y]
    omega
  · intro e
    have := Int.mul_ediv_add_emod c w
    rw [e.1, e.2, Int.mul_comm w y] at this
    exact this.symm
theorem lan_o {w o l t : Int} : ∀ (n : Nat) {i : Int} {σ : zH} {k : Int}, k ≠ 6 → lanF w o l t n i σ k = σ k
  | 0, _, _, _, _ => rfl
  | n + 1, i, σ, k, hk => by
    rw [lanF, lan_o n hk]
    split
    · rw [zset_n hk]
    · rfl
theorem lan_6 {w o l t c : Int} : ∀ (n : Nat) {i : Int} {σ : zH}, lanF w o l t n i σ 6 c = if i ≤ c ∧ c < i + n ∧ l ≤ c % w ∧ c % w ≤ t % w then o else σ 6 c
  | 0, i, σ => by
    rw [lanF, if_neg]
    intro z
    have : c < i + ((0 : Nat) : Int) := z.2.1
    omega
  | n + 1, i, σ => by
    rw [lanF, lan_6 n]
    by_cases e : c = i
    · rw [if_neg (c := i + 1 ≤ c ∧ c < i + 1 + n ∧ l ≤ c % w ∧ c % w ≤ t % w) (fun z => by omega)]
      by_cases q : l ≤ i % w ∧ i % w ≤ t % w
      · rw [if_pos q, e, zset_e, if_pos ⟨Int.le_refl _, by omega, q⟩]
      · rw [if_neg q, e, if_neg (fun z => q z.2.2)]
    · have e6 : (if l ≤ i % w ∧ i % w ≤ t % w then zset σ 6 i o else σ) 6 c = σ 6 c := by
        split
        · rw [zset_j e]
        · rfl
      rw [e6]
      by_cases q : i ≤ c ∧ c < i + ((n + 1 : Nat) : Int) ∧ l ≤ c % w ∧ c % w ≤ t % w
      · rw [if_pos q, if_pos ⟨by omega, by omega, q.2.2⟩]
      · rw [if_neg q, if_neg (fun z => q ⟨by omega, by omega, z.2.2⟩)]
def frL (h h' : zH) : Prop := (∀ r, r ≠ 410 → h' r = h r) ∧ ∀ i, ¬ (60 * h 403 44 ≤ i ∧ i < 60 * h 403 44 + 60) → h' 410 i = h 410 i
theorem frL.rf (h : zH) : frL h h := ⟨fun _ _ => rfl, fun _ _ => rfl⟩
theorem frL.t {a b c : zH} (h1 : frL a b) (h2 : frL b c) : frL a c := by
  refine ⟨fun r x => (h2.1 r x).trans (h1.1 r x), fun i x => (h2.2 i ?_).trans (h1.2 i x)⟩
  rw [h1.1 403 (by decide)]
  exact x
theorem frL.n {h h' : zH} (f : frL h h') : frBk h h' := by
  refine ⟨fun r x => f.1 r (by omega), fun q x => by rw [f.1 403 (by decide)], fun r i r1 r2 x => ?_⟩
  by_cases e : r = 410
  · rw [e] at x ⊢
    rw [show rsz 410 = 60 by decide] at x
    exact f.2 i x
  · rw [f.1 r e]
theorem q_R_l112 {d : Nat} {σ : zH} {o f t y : Int} {Q : zV → zH → Prop} (hw : 1 ≤ σ 0 0 ∧ σ 0 0 ≤ 10) (ht : 0 ≤ t) (y0 : 0 ≤ y) (yb : y * σ 0 0 + σ 0 0 ≤ 60) : ∀ (k : Nat) {x : Int} {h : zH}, gF σ h → 0 ≤ x → x + k = t % σ 0 0 + 1 → (∀ h', frL h h' → (∀ c, 0 ≤ c → c < 60 → h' 410 (60 * h 403 44 + c) = if c / σ 0 0 = y ∧ x ≤ c % σ 0 0 ∧ c % σ 0 0 ≤ t % σ 0 0 then o else h 410 (60 * h 403 44 + c)) → zWp (l_R_landing_83 d o f t (w32 (y + 1)) h') Q) → zWp (l_R_landing_112 d o f t y x h) Q := by
  intro k
  have mt : 0 ≤ t % σ 0 0 ∧ t % σ 0 0 < σ 0 0 := ⟨Int.emod_nonneg _ (by omega), Int.emod_lt_of_pos _ (by omega)⟩
  have et : Int.tmod t (σ 0 0) = t % σ 0 0 := Int.tmod_eq_emod_of_nonneg ht
  have yw : 0 ≤ y * σ 0 0 := Int.mul_nonneg y0 (by omega)
  induction k with
  | zero =>
    intro x h g x0 hx N
    have b : 0 ≤ h 403 44 ∧ h 403 44 < ((2 : Nat) : Int) := by rcases g.1 with e | e <;> omega
    have hx' : x + 0 = t % σ 0 0 + 1 := hx
    rw [el_R_landing_112, g.2.1, et]
    refine zWp_it b (zWp_dz (by omega) (zWp_it (by omega) (N h (frL.rf h) (fun c c0 c1 => ?_))))
    rw [if_neg (fun z => by omega)]
  | succ k ih =>
    intro x h g x0 hx N
    have b : 0 ≤ h 403 44 ∧ h 403 44 < ((2 : Nat) : Int) := by rcases g.1 with e | e <;> omega
    rw [el_R_landing_112, g.2.1, et, w32_i (x := y * σ 0 0) (by omega), ixw (by omega) (by omega), w32_i (x := 60 * h 403 44 + y * σ 0 0 + x) (by omega), w32_i (x := x + 1) (by omega), show 60 * h 403 44 + y * σ 0 0 + x = 60 * h 403 44 + (y * σ 0 0 + x) by omega]
    refine zWp_it b (zWp_dz (by omega) (zWp_nt (by omega) (zWp_it b (zWp_it (by omega) (zWp_lt fun h1 e1 => ?_)))))
    have t1 : h1 403 44 = h 403 44 := by rw [e1, zset_o (by decide)]
    have g1 : gF σ h1 := g.fr t1 rfl (by rw [e1, zset_n (by decide)]) (by rw [e1, zset_n (by decide)])
    have l1 : frL h h1 := ⟨fun r hr => by rw [e1, zset_n hr], fun i hi => by rw [e1, zset_j (by omega)]⟩
    refine ih g1 (by omega) (by omega) (fun h' f' v' => N h' (l1.t f') (fun c c0 c1 => ?_))
    rw [← t1, v' c c0 c1, t1, e1]
    have ce := cw (c := c) (y := y) (show 0 < σ 0 0 by omega) (show 0 ≤ x ∧ x < σ 0 0 by omega)
    by_cases q : c = y * σ 0 0 + x
    · have q2 := ce.1 q
      rw [if_neg (c := c / σ 0 0 = y ∧ x + 1 ≤ c % σ 0 0 ∧ c % σ 0 0 ≤ t % σ 0 0) (fun z => by omega), if_pos ⟨q2.1, by omega, by omega⟩, q, zset_e]
    · rw [zset_j (by omega)]
      by_cases q3 : c / σ 0 0 = y ∧ x ≤ c % σ 0 0 ∧ c % σ 0 0 ≤ t % σ 0 0
      · have : c % σ 0 0 ≠ x := fun z => q (ce.2 ⟨q3.1, z⟩)
        rw [if_pos q3, if_pos ⟨q3.1, by omega, q3.2.2⟩]
      · rw [if_neg q3, if_neg (fun z => q3 ⟨z.1, by omega, z.2.2⟩)]
theorem q_R_l83 {d : Nat} {σ : zH} {o f t : Int} (hw : 1 ≤ σ 0 0 ∧ σ 0 0 ≤ 10) (hf : 0 ≤ f) (ht : 0 ≤ t) (fx : f % σ 0 0 ≤ t % σ 0 0) (tb : t / σ 0 0 * σ 0 0 + σ 0 0 ≤ 60) (tz : t / σ 0 0 ≤ 60) : ∀ (k : Nat) {y : Int} {h : zH}, gF σ h → 0 ≤ y → y + k = t / σ 0 0 + 1 → zWp (l_R_landing_83 d o f t y h) (fun _ h' => frL h h' ∧ ∀ c, 0 ≤ c → c < 60 → h' 410 (60 * h 403 44 + c) = if y ≤ c / σ 0 0 ∧ c / σ 0 0 ≤ t / σ 0 0 ∧ f % σ 0 0 ≤ c % σ 0 0 ∧ c % σ 0 0 ≤ t % σ 0 0 then o else h 410 (60 * h 403 44 + c)) := by
  intro k
  have mf : 0 ≤ f % σ 0 0 := Int.emod_nonneg _ (by omega)
  have d0 : 0 ≤ t / σ 0 0 := Int.ediv_nonneg ht (by omega)
  have e1 : Int.tdiv t (σ 0 0) = t / σ 0 0 := Int.tdiv_eq_ediv_of_nonneg ht
  have e2 : Int.tmod f (σ 0 0) = f % σ 0 0 := Int.tmod_eq_emod_of_nonneg hf
  induction k with
  | zero =>
    intro y h g y0 hy
    have hy' : y + 0 = t / σ 0 0 + 1 := hy
    have b : 0 ≤ h 403 44 ∧ h 403 44 < ((2 : Nat) : Int) := by rcases g.1 with e | e <;> omega
    rw [el_R_landing_83, g.2.1, e1, w32_i (x := t / σ 0 0) (by omega)]
    refine zWp_it b (zWp_dz (by omega) (zWp_it (by omega) (zWp_s ⟨frL.rf h, fun c c0 c1 => ?_⟩)))
    rw [if_neg (fun z => by omega)]
  | succ k ih =>
    intro y h g y0 hy
    have b : 0 ≤ h 403 44 ∧ h 403 44 < ((2 : Nat) : Int) := by rcases g.1 with e | e <;> omega
    have yb : y * σ 0 0 ≤ t / σ 0 0 * σ 0 0 := Int.mul_le_mul_of_nonneg_right (by omega) (by omega)
    rw [el_R_landing_83, g.2.1, e1, e2, w32_i (x := t / σ 0 0) (by omega)]
    refine zWp_it b (zWp_dz (by omega) (zWp_nt (by omega) (zWp_it b (zWp_dz (by omega) (q_R_l112 hw ht y0 (by omega) (t % σ 0 0 + 1 - f % σ 0 0).toNat g mf (by omega) (fun h1 f1 v1 => ?_))))))
    have t1 : h1 403 44 = h 403 44 := by rw [f1.1 403 (by decide)]
    have g1 : gF σ h1 := g.fr t1 rfl (f1.1 405 (by decide)) (f1.1 406 (by decide))
    rw [w32_i (x := y + 1) (by omega)]
    refine zWp_m (ih g1 (by omega) (by omega)) (fun _ h' u => ⟨f1.t u.1, fun c c0 c1 => ?_⟩)
    rw [← t1, u.2 c c0 c1, t1, v1 c c0 c1]
    by_cases q : y + 1 ≤ c / σ 0 0 ∧ c / σ 0 0 ≤ t / σ 0 0 ∧ f % σ 0 0 ≤ c % σ 0 0 ∧ c % σ 0 0 ≤ t % σ 0 0
    · rw [if_pos q, if_pos ⟨by omega, q.2⟩]
    · rw [if_neg q]
      by_cases q2 : c / σ 0 0 = y ∧ f % σ 0 0 ≤ c % σ 0 0 ∧ c % σ 0 0 ≤ t % σ 0 0
      · rw [if_pos q2, if_pos ⟨by omega, by omega, q2.2⟩]
      · rw [if_neg q2, if_neg (fun z => by
          by_cases e : c / σ 0 0 = y
          · exact q2 ⟨e, z.2.2⟩
          · exact q ⟨by omega, z.2⟩)]
