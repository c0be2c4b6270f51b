/-! the reference: how it holds a slope and a state -/
def RS (σ h : zH) : Prop :=
  (h 403 12 = 0 ∨ h 403 12 = 1) ∧ (h 405 (h 403 12) = σ 0 0 ∧ h 406 (h 403 12) = σ 0 1) ∧
  (∀ c, 0 ≤ c → c < nC σ → h 408 (60 * h 403 12 + c) = σ 1 c ∧ h 454 c = σ 2 c ∧ h 455 c = σ 3 c ∧ h 409 (60 * h 403 12 + c) = σ 4 c ∧ h 411 (60 * h 403 12 + c) = σ 5 c ∧ h 410 (60 * h 403 12 + c) = σ 6 c) ∧
  (h 413 (h 403 12) = nO σ ∧ h 415 (h 403 12) = nS σ ∧ h 420 (h 403 12) = nHo σ ∧ h 424 (h 403 12) = nT σ ∧ h 427 (h 403 12) = nRo σ ∧ h 429 (h 403 12) = nLa σ) ∧
  (∀ i, 0 ≤ i → i < nS σ → h 417 (10 * h 403 12 + i) = σ 13 i ∧ h 418 (10 * h 403 12 + i) = σ 14 i ∧ h 419 (10 * h 403 12 + i) = σ 15 i) ∧
  (∀ i, 0 ≤ i → i < nHo σ → h 422 (8 * h 403 12 + i) = σ 16 i ∧ h 423 (8 * h 403 12 + i) = σ 17 i) ∧
  (∀ i, 0 ≤ i → i < nT σ → h 425 (6 * h 403 12 + i) = σ 18 i ∧ h 426 (6 * h 403 12 + i) = σ 19 i) ∧
  (∀ i, 0 ≤ i → i < nRo σ → h 428 (9 * h 403 12 + i) = σ 20 i)
theorem RS.b {σ h : zH} (g : RS σ h) : 0 ≤ h 403 12 ∧ h 403 12 ≤ 1 := by rcases g.1 with e | e <;> omega
theorem RS.fr {σ h h' : zH} (g : RS σ h) (h0 : h' 403 12 = h 403 12) (hr : ∀ r, 405 ≤ r → r ≤ 429 ∨ r = 454 ∨ r = 455 → h' r = h r) : RS σ h' := by
  unfold RS at g ⊢
  rw [h0, hr 405 (by decide) (by decide), hr 406 (by decide) (by decide), hr 408 (by decide) (by decide), hr 454 (by decide) (by decide), hr 455 (by decide) (by decide), hr 409 (by decide) (by decide), hr 411 (by decide) (by decide), hr 410 (by decide) (by decide), hr 413 (by decide) (by decide), hr 415 (by decide) (by decide), hr 420 (by decide) (by decide), hr 424 (by decide) (by decide), hr 427 (by decide) (by decide), hr 429 (by decide) (by decide), hr 417 (by decide) (by decide), hr 418 (by decide) (by decide), hr 419 (by decide) (by decide), hr 422 (by decide) (by decide), hr 423 (by decide) (by decide), hr 425 (by decide) (by decide), hr 426 (by decide) (by decide), hr 428 (by decide) (by decide)]
  exact g
def RT (σ st : zH) (v : Int) (h : zH) : Prop := (0 ≤ v ∧ v ≤ 34) ∧
  (∀ i, 0 ≤ i → i < nS σ → h 444 (10 * v + i) = st 1 i ∧ h 445 (10 * v + i) = w32 (st 2 i) ∧ h 446 (10 * v + i) = w32 (st 3 i)) ∧
  (∀ i, 0 ≤ i → i < nHo σ → h 447 (8 * v + i) = st 9 i) ∧
  (∀ c, 0 ≤ c → c < nC σ → h 448 (60 * v + c) = st 5 c ∧ h 449 (60 * v + c) = st 6 c ∧ h 450 (60 * v + c) = st 8 c)
theorem RT.fr {σ st : zH} {v : Int} {h h' : zH} (t : RT σ st v h) (hr : ∀ r, 444 ≤ r → r ≤ 450 → h' r = h r) : RT σ st v h' := by
  unfold RT at t ⊢
  rw [hr 444 (by decide) (by decide), hr 445 (by decide) (by decide), hr 446 (by decide) (by decide), hr 447 (by decide) (by decide), hr 448 (by decide) (by decide), hr 449 (by decide) (by decide), hr 450 (by decide) (by decide)]
  exact t
theorem ixw {k v i : Int} (h : -1000000 ≤ k * v ∧ k * v ≤ 1000000) (h2 : -1000000 ≤ i ∧ i ≤ 1000000) : w32 (w32 (k * v) + i) = k * v + i := by
  rw [w32_i (x := k * v) (by omega), w32_i (by omega)]
theorem q_R_stoneAt2 {d : Nat} {σ st : zH} {v c : Int} {h : zH} (w : WS σ) (g : RS σ h) (t : RT σ st v h) : ∀ (n : Nat) {k : Int}, 0 ≤ k → k + n = nS σ → l_R_stoneAt_2 d v c k h = some (.inl (zfs (fun i => decide (st 1 i = c)) n k), h)
  | 0, k, hk, hn => by
    have hb := g.b
    rw [el_R_stoneAt_2, if_pos (by omega), g.2.2.2.1.2.1, if_neg (by omega)]
    rfl
  | n + 1, k, hk, hn => by
    have hb := g.b
    have hS10 : nS σ ≤ 10 := w.2.1.2.2.2.1
    have hv := t.1
    rw [el_R_stoneAt_2, if_pos (by omega), g.2.2.2.1.2.1, if_pos (by omega), ixw (by omega) (by omega), if_pos (by omega), (t.2.1 k hk (by omega)).1]
    by_cases e : st 1 k = c
    · rw [if_pos e, zfs_t (decide_eq_true e)]
    · rw [if_neg e, zfs_f (decide_eq_false e), w32_i (by omega)]
      exact q_R_stoneAt2 w g t n (by omega) (by omega)
theorem q_R_stoneAt {d : Nat} {σ st : zH} {v c : Int} {h : zH} (w : WS σ) (g : RS σ h) (t : RT σ st v h) : m_R_stoneAt (d + 1) v c h = some (.inl (sAt σ st c), h) := by
  have hS0 : 0 ≤ nS σ := w.2.1.2.2.1
  rw [em_R_stoneAt, q_R_stoneAt2 w g t (nS σ).toNat (by omega) (by omega)]
  rfl
theorem q_R_houseAt2 {d : Nat} {σ : zH} {c : Int} {h : zH} (w : WS σ) (g : RS σ h) : ∀ (n : Nat) {k : Int}, 0 ≤ k → k + n = nHo σ → l_R_houseAt_2 d c k h = some (.inl (zfs (fun i => decide (σ 17 i = c)) n k), h)
  | 0, k, hk, hn => by
    have hb := g.b
    rw [el_R_houseAt_2, if_pos (by omega), g.2.2.2.1.2.2.1, if_neg (by omega)]
    rfl
  | n + 1, k, hk, hn => by
    have hb := g.b
    have hS10 : nHo σ ≤ 8 := w.2.1.2.2.2.2.2.1
    rw [el_R_houseAt_2, if_pos (by omega), g.2.2.2.1.2.2.1, if_pos (by omega), ixw (by omega) (by omega), if_pos (by omega), (g.2.2.2.2.2.1 k hk (by omega)).2]
    by_cases e : σ 17 k = c
    · rw [if_pos e, zfs_t (decide_eq_true e)]
    · rw [if_neg e, zfs_f (decide_eq_false e), w32_i (by omega)]
      exact q_R_houseAt2 w g n (by omega) (by omega)
theorem house_at {σ : zH} (w : WS σ) {c : Int} (hc : 0 ≤ c ∧ c < nC σ) : zfs (fun i => decide (σ 17 i = c)) (nHo σ).toNat 0 = σ 7 c := by
  have hH0 : 0 ≤ nHo σ := w.2.1.2.2.2.2.1
  have hc7 := w.2.2.2.1 c hc.1 hc.2
  have b1 : -1 ≤ σ 7 c ∧ σ 7 c < nHo σ := ⟨hc7.2.2.2.2.2.2.1, hc7.2.2.2.2.2.2.2.1⟩
  have b2 := hc7.2.2.2.2.2.2.2.2.1
  clear hc7
  rcases zfs_spec (fun i => decide (σ 17 i = c)) (nHo σ).toNat 0 with ⟨h1, h2⟩ | ⟨h1, h2, h3, -⟩
  · rw [h1]
    by_cases e : σ 7 c = -1
    · exact e.symm
    · have := of_decide_eq_false (h2 (σ 7 c) (by omega) (by omega))
      exact absurd (b2 e) this
  · have h3 := of_decide_eq_true h3
    have := (w.2.2.2.2.2.1 _ h1 (by omega)).2.2.2.2
    rw [h3] at this
    exact this.symm
theorem q_R_houseAt {d : Nat} {σ : zH} {c : Int} {h : zH} (w : WS σ) (g : RS σ h) (hc : 0 ≤ c ∧ c < nC σ) : m_R_houseAt (d + 1) c h = some (.inl (σ 7 c), h) := by
  have hH0 : 0 ≤ nHo σ := w.2.1.2.2.2.2.1
  rw [em_R_houseAt, q_R_houseAt2 w g (nHo σ).toNat (by omega) (by omega), house_at w hc]
theorem q_R_wholeAt {d : Nat} {σ st : zH} {v c : Int} {h : zH} (w : WS σ) (g : RS σ h) (t : RT σ st v h) (hc : 0 ≤ c ∧ c < nC σ) : m_R_wholeAt (d + 2) v c h = some (.inl (if σ 7 c ≠ -1 ∧ st 9 (σ 7 c) ≠ 1 then σ 7 c else -1), h) := by
  have hH8 : nHo σ ≤ 8 := w.2.1.2.2.2.2.2.1
  have hv := t.1
  have hc7 := w.2.2.2.1 c hc.1 hc.2
  have b1 : -1 ≤ σ 7 c ∧ σ 7 c < nHo σ := ⟨hc7.2.2.2.2.2.2.1, hc7.2.2.2.2.2.2.2.1⟩
  clear hc7
  rw [em_R_wholeAt, q_R_houseAt w g hc, zqi_s]
  by_cases e : σ 7 c = -1
  · rw [if_pos e, if_neg (fun z => z.1 e)]
  · rw [if_neg e, ixw (by omega) (by omega), if_pos (by omega), t.2.2.1 (σ 7 c) (by omega) (by omega)]
    by_cases e2 : st 9 (σ 7 c) = 1
    · rw [if_pos e2, if_neg (fun z => z.2 e2)]
    · rw [if_neg e2, if_pos ⟨e, e2⟩]
theorem q_R_ownerOf {d : Nat} {σ : zH} {c : Int} {h : zH} (w : WS σ) (g : RS σ h) (hc : 0 ≤ c ∧ c < nC σ) : m_R_ownerOf (d + 1) c h = some (.inl (σ 6 c), h) := by
  have hb := g.b
  have hn := w.n
  rw [em_R_ownerOf, ixw (by omega) (by omega), if_pos (by omega), (g.2.2.1 c hc.1 hc.2).2.2.2.2.2]
theorem q_R_starts {d : Nat} {σ st : zH} {v i p : Int} {h : zH} (w : WS σ) (g : RS σ h) (t : RT σ st v h) (wt : WT σ st) (hi : 0 ≤ i ∧ i < nS σ) (hp : 0 ≤ p ∧ p ≤ 2000000) : m_R_starts (d + 1) v i p h = some (.inl (if st 1 i ≠ -1 ∧ σ 2 (st 1 i) ≠ -1 ∧ σ 14 i < p + σ 3 (st 1 i) then 1 else 0), h) := by
  have hb := g.b
  have hn := w.n
  have hv := t.1
  have hS10 : nS σ ≤ 10 := w.2.1.2.2.2.1
  rw [em_R_starts, ixw (k := 10) (v := v) (by omega) (by omega), ixw (k := 10) (v := h 403 12) (by omega) (by omega), if_pos (by omega), (t.2.1 i hi.1 hi.2).1]
  rcases (wt.1 i hi.1 hi.2).1 with e | ⟨e1, e2⟩
  · rw [if_pos e, if_neg (fun q => q.1 e)]
  · have hc := g.2.2.1 _ e1 e2
    rw [if_neg (by omega), if_pos (by omega), hc.2.1]
    by_cases e3 : σ 2 (st 1 i) = -1
    · rw [if_pos e3, if_neg (fun q => q.2.1 e3)]
    · have hD : 0 ≤ σ 3 (st 1 i) ∧ σ 3 (st 1 i) ≤ 999 := by
        have hh := w.2.2.1 _ e1 e2
        rcases hh.2.2 with q | q
        · omega
        · have := w.2.2.1 _ q.1 q.2.1
          omega
      rw [if_neg e3, if_pos (by omega), if_pos (by omega), (g.2.2.2.2.1 i hi.1 hi.2).2.1, hc.2.2.1, w32_i (by omega)]
      by_cases e4 : σ 14 i < p + σ 3 (st 1 i)
      · rw [if_pos e4, if_pos ⟨by omega, e3, e4⟩]
      · rw [if_neg e4, if_neg (fun q => e4 q.2.2)]
