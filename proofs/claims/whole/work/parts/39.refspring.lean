theorem q_R_drives {d : Nat} {σ st : zH} {v s p R : Int} {Λ : zLw} {h0 h : zH} {E : List zEv} {W : List Int} {Δ : zDu} (w : WS σ) (g : RS σ h) (t : RT σ st v h) (wt : WT σ st) (hs : 0 ≤ s ∧ s < nS σ) (hp : 0 ≤ p ∧ p ≤ 2000000) (rv : RV E R h) (rw : RW W h) (hW : (W.length : Int) + 600 ≤ 800000) (dr : DR v Λ (d + 1) Δ h0 h) :
    zWp (m_R_drives (d + 4) v s p h) (fun x h' => x = .inl ((pathT (drv σ st s p).2).length : Int) ∧ DPost σ (drv σ st s p) v Λ (d + 1) E R W Δ h0 h h') := by
  have hb := bls_le (st := st) w hs
  rw [em_R_drives]
  refine zWp_m (q_R18 w (d := d) (Λ := Λ) (h0 := h0) 10 g t wt (Or.inr ⟨hs, hp, by omega⟩) rv rw (by omega) (Or.inr rw.1) dr) ?_
  rintro x h' ⟨k1, k2⟩
  have e : (if s ≠ -1 ∧ (st 1 s ≠ -1 ∧ σ 2 (st 1 s) ≠ -1 ∧ σ 14 s < p + σ 3 (st 1 s)) then s else -1) = (if st 1 s ≠ -1 ∧ σ 2 (st 1 s) ≠ -1 ∧ σ 14 s < p + σ 3 (st 1 s) then s else -1) := by
    by_cases z : st 1 s ≠ -1 ∧ σ 2 (st 1 s) ≠ -1 ∧ σ 14 s < p + σ 3 (st 1 s)
    · rw [if_pos z, if_pos ⟨by omega, z⟩]
    · rw [if_neg z, if_neg (fun q => z q.2)]
  rw [e] at k1 k2
  refine ⟨?_, k2⟩
  rw [k1]
  unfold drv
  by_cases z : (if st 1 s ≠ -1 ∧ σ 2 (st 1 s) ≠ -1 ∧ σ 14 s < p + σ 3 (st 1 s) then s else -1) = -1
  · rw [if_pos (Or.inr z), z]
    rfl
  · rw [if_neg (fun q => by rcases q with q | q; exact absurd q (by decide); exact z q)]
theorem drvB_cells {σ : zH} : ∀ (f : Nat) (st : zH) (s : Int), ((trCells (drvB σ f st s).2).length : Int) ≤ 60 * f
  | 0, st, s => by show ((0 : Nat) : Int) ≤ _; omega
  | f + 1, st, s => by
    unfold drvB
    by_cases e : s = -1
    · rw [if_pos e]; show ((0 : Nat) : Int) ≤ _; omega
    · rw [if_neg e]
      have ih := drvB_cells (σ := σ) f (rollS σ st s).1 (pushed σ (rollS σ st s))
      have hlen := rollA_len (σ := σ) 60 (zset st 2 s (st 2 s + 1)) s (st 1 s) 0 0
      have hcl := cellsOf_len (rollS σ st s).2.1
      show (((cellsOf (rollS σ st s).2.1 ++ trCells (drvB σ f (rollS σ st s).1 (pushed σ (rollS σ st s))).2).length : Nat) : Int) ≤ _
      rw [List.length_append]
      unfold rollS at hcl ih ⊢
      omega
theorem DPost.tr {σ : zH} {D F : zH × zTr} {v : Int} {Λ : zLw} {d : Nat} {E : List zEv} {R : Int} {W : List Int} {Δ : zDu} {h0 h h1 h2 : zH} (a : DPost σ D v Λ d E R W Δ h0 h h1) (b : DPost σ F v Λ d (E ++ trEv σ D.2) (R + D.2.length) (W ++ trCells D.2) (dueF Λ σ Δ (ecl σ (trEv σ D.2))) h0 h1 h2) : DPost σ (F.1, D.2 ++ F.2) v Λ d E R W Δ h0 h h2 := by
  obtain ⟨k1, k2, k3, k4, k5, k6⟩ := b
  refine ⟨k1, k2, a.2.2.1.t k3, ?_, ?_, ?_⟩
  · rw [List.append_assoc, ← trEv_app] at k4
    show RV _ (R + ((D.2 ++ F.2).length : Int)) _
    rw [List.length_append, show R + ((D.2.length + F.2.length : Nat) : Int) = R + D.2.length + F.2.length by omega]
    exact k4
  · rw [List.append_assoc, ← trCells_app] at k5
    exact k5
  · show DR v Λ d (dueF Λ σ Δ (ecl σ (trEv σ (D.2 ++ F.2)))) h0 h2
    rw [trEv_app, ecl_app, dueF_app]
    exact k6
theorem q_R_springs2 {σ : zH} (w : WS σ) {d : Nat} {v p : Int} {Λ : zLw} {h0 : zH} (hp : 0 ≤ p ∧ p ≤ 2000000) : ∀ (n : Nat) {i R : Int} {st h : zH} {E : List zEv} {W : List Int} {Δ : zDu}, 0 ≤ i → i + n = nS σ → RS σ h → RT σ st v h → WT σ st → RV E R h → RW W h → (W.length : Int) + 600 * n ≤ 700000 → DR v Λ (d + 1) Δ h0 h →
    zWp (l_R_springs_2 (d + 4) v p i h) (fun _ h' => DPost σ (sprF σ p false n i st) v Λ (d + 1) E R W Δ h0 h h') := by
  intro n
  induction n with
  | zero =>
    intro i R st h E W Δ hi hn g t wt rv rw hW dr
    have hb := g.b
    rw [el_R_springs_2, g.2.2.2.1.2.1]
    exact zWp_it (by omega) (zWp_nt (by omega) (zWp_s (DPost.nil g t rv rw dr)))
  | succ n ih =>
    intro i R st h E W Δ hi hn g t wt rv rw hW dr
    have hb := g.b
    have hS10 : nS σ ≤ 10 := w.2.1.2.2.2.1
    rw [el_R_springs_2, g.2.2.2.1.2.1]
    obtain ⟨x, h1, e1, k1, k2⟩ := q_R_drives (d := d) w g t wt (show 0 ≤ i ∧ i < nS σ by omega) hp rv rw (by omega) dr
    refine zWp_it (by omega) (zWp_it (by omega) ?_)
    rw [k1] at e1
    refine zWp_qi e1 ?_
    rw [w32_i (by omega)]
    have hdc := drvB_cells (σ := σ) 10 st (if st 1 i ≠ -1 ∧ σ 2 (st 1 i) ≠ -1 ∧ σ 14 i < p + σ 3 (st 1 i) then i else -1)
    have hW1 : (((W ++ trCells (drv σ st i p).2).length : Nat) : Int) + 600 * n ≤ 700000 := by
      rw [List.length_append]; unfold drv; omega
    refine zWp_m (ih (by omega) (by omega) k2.2.1 k2.1 (drv_ok w wt (by omega)).1 k2.2.2.2.1 k2.2.2.2.2.1 hW1 k2.2.2.2.2.2) ?_
    intro v' h' k3
    have eS : sprF σ p false (n + 1) i st = ((sprF σ p false n (i + 1) (drv σ st i p).1).1, (drv σ st i p).2 ++ (sprF σ p false n (i + 1) (drv σ st i p).1).2) := by rw [sprF, if_neg (by simp)]
    rw [eS]
    exact k2.tr k3
theorem q_R_springs {d : Nat} {σ st : zH} {v p R : Int} {Λ : zLw} {h0 h : zH} {E : List zEv} {W : List Int} {Δ : zDu} (w : WS σ) (g : RS σ h) (t : RT σ st v h) (wt : WT σ st) (hp : 0 ≤ p ∧ p ≤ 2000000) (rv : RV E R h) (rw : RW W h) (hW : (W.length : Int) + 6000 ≤ 700000) (dr : DR v Λ (d + 1) Δ h0 h) :
    zWp (m_R_springs (d + 5) v p h) (fun _ h' => DPost σ (sprF σ p false (nS σ).toNat 0 st) v Λ (d + 1) E R W Δ h0 h h') := by
  have hS0 : 0 ≤ nS σ := w.2.1.2.2.1
  have hS10 : nS σ ≤ 10 := w.2.1.2.2.2.1
  rw [em_R_springs]
  exact q_R_springs2 w hp (nS σ).toNat (by omega) (by omega) g t wt rv rw (by omega) dr
theorem q_R_forgets {d : Nat} {h : zH} : zWp (m_R_forgets (d + 1) h) (fun _ h' => RV [] 0 h' ∧ RW [] h' ∧ (∀ r, ¬ r = 403 → h' r = h r) ∧ (∀ q, ¬ (q = 73 ∨ q = 74 ∨ q = 75 ∨ q = 76 ∨ q = 77 ∨ q = 79) → h' 403 q = h 403 q)) := by
  rw [em_R_forgets]
  refine zWp_lt fun h1 e1 => zWp_lt fun h2 e2 => zWp_lt fun h3 e3 => zWp_lt fun h4 e4 => zWp_lt fun h5 e5 => zWp_lt fun h6 e6 => zWp_s ?_
  have f : ∀ q, h6 403 q = if q = 79 then 0 else if q = 77 then 0 else if q = 76 then 0 else if q = 75 then 0 else if q = 74 then 0 else if q = 73 then 0 else h 403 q := fun q => by
    rw [e6, zset_g, e5, zset_g, e4, zset_g, e3, zset_g, e2, zset_g, e1, zset_g]
  refine ⟨⟨?_, ?_, ?_, ?_, ?_⟩, ⟨?_, fun j x _ hx => by cases hx⟩, fun r hr => by rw [e6, zset_n hr, e5, zset_n hr, e4, zset_n hr, e3, zset_n hr, e2, zset_n hr, e1, zset_n hr], fun q hq => ?_⟩
  · rw [f]; rfl
  · rw [f]; rfl
  · rw [f]; rfl
  · rw [f]; rfl
  · rw [f]; rfl
  · rw [f]; rfl
  · rw [f, if_neg (by omega), if_neg (by omega), if_neg (by omega), if_neg (by omega), if_neg (by omega), if_neg (by omega)]
