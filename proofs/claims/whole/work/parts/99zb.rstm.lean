/-! a statement, but a law's, in the reference -/
theorem ow_sg {A : List zTk} {s : zRd} {i : Nat} : sgS A 2 (i : Int) s = true ↔ owS A s = (i : Int) := by
  unfold sgS owS
  rw [decide_eq_true_iff]
  by_cases c : kdS A s = 2
  · rw [if_pos c]; exact ⟨fun z => z.2, fun z => ⟨c, z⟩⟩
  · rw [if_neg c]; exact ⟨fun z => absurd z.1 c, fun z => by omega⟩
theorem k_wd {d : Nat} {T : Int → Int} {n x : Int} {s : zRd} {h : zH} {f : Int → zH → zR} {Q : zV → zH → Prop} (r : RR T n s h) (hd : effK (toks T n) s = 0) (i : Nat) (hi : i < 26) (ex : x = (pk8 0 (ownL.getD i []) : Nat)) (k1 : owS (toks T n) s = (i : Int) → zWp (f 1 h) Q) (k0 : owS (toks T n) s ≠ (i : Int) → zWp (f 0 h) Q) : zWp (zqi (m_R_isWord (d + 1) x h) f) Q := by
  refine zWp_qi q_R_isWd ?_
  rw [ex]
  by_cases c : h 403 3 = 1 ∧ h 403 7 = (pk8 0 (ownL.getD i []) : Nat)
  · rw [if_pos c]; exact k1 (ow_sg.1 ((r.wd hd hi).1 c))
  · rw [if_neg c]; exact k0 (fun z => c ((r.wd hd hi).2 (ow_sg.2 z)))
def bodX (A : List zTk) (σ : zH) (s : zRd) : zH × zRd := if (kndS A σ 0 s).1 = -1 then (σ, (kndS A σ 0 s).2) else (zset (bodS A σ (kndS A σ 0 s).1 (kndS A σ 0 s).2).1 8 (kndS A σ 0 s).1 (σ 8 (kndS A σ 0 s).1 + 1), (bodS A σ (kndS A σ 0 s).1 (kndS A σ 0 s).2).2)
theorem bodX_k {A : List zTk} {σ : zH} {s : zRd} {k m : Int} (e : owS A s = k) (hm : mostA σ k = m) (m1 : m ≠ -1) (k0 : k ≠ 0) (k1 : k ≠ -1) : bodX A σ s = if σ 8 k < m then (zset (bodS A σ k (advS s)).1 8 k (σ 8 k + 1), (bodS A σ k (advS s)).2) else (σ, flS 5 (tkI A s.1).2.1 s) := by
  have kn : kndS A σ 0 s = if σ 8 k < m then (k, advS s) else (-1, flS 5 (tkI A s.1).2.1 s) := by
    unfold kndS
    rw [e, hm, if_neg (c := k = 0) k0, if_neg (c := m = -1 ∨ ¬ (0 : Int) = 0) (fun z => by rcases z with z | z; exact m1 z; exact z rfl)]
  unfold bodX
  rw [kn]
  by_cases c : σ 8 k < m
  · rw [if_pos c, if_pos c]
    exact if_neg k1
  · rw [if_neg c, if_neg c]
    exact if_pos rfl
theorem q_R_stm {d : Nat} {T : Int → Int} {n : Int} {s : zRd} {σ h : zH} (w : WP σ) (hw : 1 ≤ σ 0 0) (c2 : σ 8 2 < 100) (c5 : σ 8 5 < 100) (p : PR σ h) (r : RR T n s h) (hd : effK (toks T n) s = 0) (hk : (tkI (toks T n) s.1).1 ≠ 0) (nl : owS (toks T n) s ≠ 16) : zWp (m_R_statement (d + 7) h) (fun _ h' => StR T n (bodX (toks T n) σ s) h h') := by
  have w1 := w.1.1
  have k4 : nO σ = σ 8 4 := rfl
  rw [em_R_statement]
  refine k_wd (d := d + 5) r hd 1 (by decide) (by decide) (fun e => ?_) (fun e1 => ?_)
  · rw [bodX_k (k := 1) e (m := σ 0 1) (by unfold mostA; rw [if_neg (by decide), if_pos rfl]) (by omega) (by decide) (by decide)]
    exact zWp_nt (by decide) (zWp_bv (q_R_row2 (d := d + 2) w p r hd hk) (fun _ h1 u => zWp_s u))
  refine zWp_it rfl (k_wd (d := d + 5) r hd 2 (by decide) (by decide) (fun e => ?_) (fun e2 => ?_))
  · rw [bodX_k (k := 2) e (m := 100) rfl (by decide) (by decide) (by decide), if_pos (c := σ 8 2 < 100) c2]
    exact zWp_nt (by decide) (zWp_bv (q_R_rough (d := d + 1) w p r hd hk) (fun _ h1 u => zWp_s u))
  refine zWp_it rfl (k_wd (d := d + 5) r hd 4 (by decide) (by decide) (fun e => ?_) (fun e4 => ?_))
  · rw [bodX_k (k := 4) e (m := 6) rfl (by decide) (by decide) (by decide)]
    exact zWp_nt (by decide) (zWp_bv (q_R_owner2 (d := d + 2) w p r hd hk) (fun _ h1 u => zWp_s u))
  refine zWp_it rfl (k_wd (d := d + 5) r hd 5 (by decide) (by decide) (fun e => ?_) (fun e5 => ?_))
  · rw [bodX_k (k := 5) e (m := 100) rfl (by decide) (by decide) (by decide), if_pos (c := σ 8 5 < 100) c5]
    exact zWp_nt (by decide) (zWp_bv (q_R_land2 (d := d + 1) w hw p r hd hk) (fun _ h1 u => zWp_s u))
  refine zWp_it rfl (k_wd (d := d + 5) r hd 7 (by decide) (by decide) (fun e => ?_) (fun e7 => ?_))
  · rw [bodX_k (k := 7) e (m := 10) rfl (by decide) (by decide) (by decide)]
    exact zWp_nt (by decide) (zWp_bv (q_R_stone2 (d := d + 1) w p r hd hk) (fun _ h1 u => zWp_s u))
  refine zWp_it rfl (k_wd (d := d + 5) r hd 10 (by decide) (by decide) (fun e => ?_) (fun e10 => ?_))
  · rw [bodX_k (k := 10) e (m := 8) rfl (by decide) (by decide) (by decide)]
    exact zWp_nt (by decide) (zWp_bv (q_R_house2 (d := d + 1) w p r hd hk) (fun _ h1 u => zWp_s u))
  refine zWp_it rfl (zWp_bv (P := fun _ h' => StR T n (bodX (toks T n) σ s) h h') ?_ (fun _ h1 u => zWp_s u))
  rw [em_R_others]
  refine k_wd (d := d + 4) r hd 12 (by decide) (by decide) (fun e => ?_) (fun e12 => ?_)
  · rw [bodX_k (k := 12) e (m := 16) rfl (by decide) (by decide) (by decide)]
    exact zWp_nt (by decide) (zWp_bv (q_R_wall2 (d := d) w p r hd hk) (fun _ h1 u => zWp_s u))
  refine zWp_it rfl (k_wd (d := d + 4) r hd 13 (by decide) (by decide) (fun e => ?_) (fun e13 => ?_))
  · rw [bodX_k (k := 13) e (m := 6) rfl (by decide) (by decide) (by decide)]
    exact zWp_nt (by decide) (zWp_bv (q_R_thaw2 (d := d + 1) w p r hd hk) (fun _ h1 u => zWp_s u))
  refine zWp_it rfl (k_wd (d := d + 4) r hd 15 (by decide) (by decide) (fun e => ?_) (fun e15 => ?_))
  · rw [bodX_k (k := 15) e (m := 9) rfl (by decide) (by decide) (by decide)]
    exact zWp_nt (by decide) (zWp_bv (q_R_rope (d := d + 1) w p r hd hk) (fun _ h1 u => zWp_s u))
  refine zWp_it rfl (k_wd (d := d + 4) r hd 16 (by decide) (by decide) (fun e => absurd e nl) (fun e16 => ?_))
  have ex : bodX (toks T n) σ s = (σ, flS 1 (unf (tkI (toks T n) s.1)) s) := by
    have kn : kndS (toks T n) σ 0 s = (-1, flS 1 (unf (tkI (toks T n) s.1)) s) := by
      unfold kndS
      refine if_pos ?_
      by_cases q : mostA σ (owS (toks T n) s) = -1
      · exact Or.inl q
      · refine Or.inr ?_
        have := most_k q
        have e0 : owS (toks T n) s = 0 := by
          have f1 : owS (toks T n) s ≠ 1 := e1
          have f2 : owS (toks T n) s ≠ 2 := e2
          have f4 : owS (toks T n) s ≠ 4 := e4
          have f5 : owS (toks T n) s ≠ 5 := e5
          have f7 : owS (toks T n) s ≠ 7 := e7
          have f10 : owS (toks T n) s ≠ 10 := e10
          have f12 : owS (toks T n) s ≠ 12 := e12
          have f13 : owS (toks T n) s ≠ 13 := e13
          have f15 : owS (toks T n) s ≠ 15 := e15
          omega
        rw [if_pos e0]
        decide
    unfold bodX
    rw [kn]
    exact if_pos rfl
  rw [ex, (r.at hd).1]
  have b := r.bl (k := 1) (p := unf (tkI (toks T n) s.1)) hd (by decide)
  exact zWp_it rfl (zWp_qv q_R_blame (zWp_s ⟨b.1, b.2.n, fun y => absurd y (by rw [(flS_e hd (by decide)).1]; decide)⟩))
