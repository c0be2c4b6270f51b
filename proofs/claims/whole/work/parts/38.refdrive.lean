/-! the reference's drives and springs -/
theorem q_R_rolling {d : Nat} {σ st : zH} {v s R : Int} {Λ : zLw} {h0 h : zH} {E : List zEv} {W : List Int} {Δ : zDu} (w : WS σ) (g : RS σ h) (t : RT σ st v h) (wt : WT σ st) (hs : 0 ≤ s ∧ s < nS σ) (hl : st 1 s ≠ -1) (rv : RV E R h) (rw : RW W h) (hW : (W.length : Int) + 60 ≤ 900000) (dr : DR v Λ (d + 1) Δ h0 h) :
    zWp (m_R_rolling (d + 3) v s h) (RPost σ (rollS σ st s) v s (σ 6 (st 1 s)) Λ (d + 1) E (R + 1) W Δ h0 h) := by
  have hv := t.1
  have hb := g.b
  have hnn := w.n
  have hS10 : nS σ ≤ 10 := w.2.1.2.2.2.1
  have hc : 0 ≤ st 1 s ∧ st 1 s < nC σ := by
    rcases (wt.1 s hs.1 hs.2).1 with q | q
    · exact absurd q hl
    · exact q
  have hH1 : σ 1 (st 1 s) ≤ 999 := (w.2.2.1 _ hc.1 hc.2).2.1
  have ix : w32 (w32 (10 * v) + s) = 10 * v + s := ixw (by omega) (by omega)
  have ib : w32 (w32 (10 * h 403 12) + s) = 10 * h 403 12 + s := ixw (by omega) (by omega)
  rw [em_R_rolling, ix, ib, (t.2.1 s hs.1 hs.2).1, (g.2.2.2.2.1 s hs.1 hs.2).1]
  refine zWp_it (by omega) (zWp_it (by omega) (zWp_lt fun h1 e1 => zWp_it (by omega) (zWp_it (by omega) (zWp_lt fun h2 e2 => ?_))))
  have m1 : ∀ q, ¬ q = 73 → h1 403 q = h 403 q := fun q hq => by rw [e1, zset_j hq]
  have r1 : ∀ r, ¬ r = 403 → h1 r = h r := fun r hr => by rw [e1, zset_n hr]
  have m2 : ∀ q, h2 403 q = h1 403 q := fun q => by rw [e2, zset_o (by decide)]
  have r2 : ∀ r, ¬ (r = 403 ∨ r = 445) → h2 r = h r := fun r hr => by rw [e2, zset_n (by omega), r1 r (by omega)]
  have f2 : frR v h h2 := by
    rw [e2]
    refine frR.t (b := h1) ?_ (frR.s (Or.inr (Or.inl ⟨Or.inr (Or.inl rfl), by omega⟩)))
    rw [e1]; exact frR.s (Or.inl ⟨rfl, by decide⟩)
  have t2 : RT σ (zset st 2 s (st 2 s + 1)) v h2 := by
    rw [e2]; exact RT.h2 (t.fr (fun r a b => r1 r (by omega))) hs
  have rv2 : RV E (R + 1) h2 := by
    obtain ⟨a1, a2, a3, a4, a5⟩ := rv
    refine ⟨by rw [m2, e1, zset_e, a1, w32_a], by rw [m2, m1 74 (by decide), a2], by rw [m2, m1 75 (by decide), a3], by rw [m2, m1 76 (by decide), a4], by rw [m2, m1 77 (by decide), a5]⟩
  have hbl := blw_le w hc
  refine zWp_m (q_R62 w (d := d) (Λ := Λ) (h0 := h0) hs hc 60 (g.r f2) t2 wt.h2 (zset_o (by decide)) hc (by omega) (by omega) (by omega) rv2 (rw.fr (by rw [m2, m1 79 (by decide)]) (r2 456 (by decide))) hW (dr.fr (by rw [m2, m1 12 (by decide)]) (fun r hr => r2 r (by omega)))) ?_
  rintro x h' ⟨u1, u2, u3, u4, u5, u6, u7, u8⟩
  exact ⟨u1, u2, u3, f2.t u4, u5, u6, u7, u8⟩
/-- how many stones lie lower -/
def bls (σ st : zH) (s : Int) : Int := zct (fun i => decide (st 1 i ≠ -1 ∧ σ 1 (st 1 i) < σ 1 (st 1 s))) (nS σ).toNat 0
theorem bls_le {σ st : zH} (w : WS σ) {s : Int} (hs : 0 ≤ s ∧ s < nS σ) : 0 ≤ bls σ st s ∧ bls σ st s < 10 := by
  have hS10 : nS σ ≤ 10 := w.2.1.2.2.2.1
  unfold bls
  have a := zct_le (fun i => decide (st 1 i ≠ -1 ∧ σ 1 (st 1 i) < σ 1 (st 1 s))) (nS σ).toNat 0
  have b := zct_upd (f := fun i => decide (st 1 i ≠ -1 ∧ σ 1 (st 1 i) < σ 1 (st 1 s)) || decide (i = s)) (g := fun i => decide (st 1 i ≠ -1 ∧ σ 1 (st 1 i) < σ 1 (st 1 s))) (j := s) (by simp) (by simp) (nS σ).toNat 0 hs.1 (by omega) (fun x _ _ hx => by simp [hx])
  have e := zct_le (fun i => decide (st 1 i ≠ -1 ∧ σ 1 (st 1 i) < σ 1 (st 1 s)) || decide (i = s)) (nS σ).toNat 0
  omega
theorem bls_lt {σ st : zH} (w : WS σ) (wt : WT σ st) {s : Int} (hs : 0 ≤ s ∧ s < nS σ) (hl : st 1 s ≠ -1) (ho : ¬ (rollS σ st s).2.2.1 = -1) : bls σ (rollS σ st s).1 (rollS σ st s).2.2.1 < bls σ st s := by
  obtain ⟨-, -, a3, -, a5, a6, -⟩ := rollS_ok w wt hs hl
  obtain ⟨b1, b2, b3, b4, b5, -⟩ : (0 ≤ (rollS σ st s).2.2.1 ∧ (rollS σ st s).2.2.1 < nS σ) ∧ σ 2 ((rollS σ st s).1 1 s) = (rollS σ st s).1 1 (rollS σ st s).2.2.1 ∧ 0 ≤ (rollS σ st s).1 1 (rollS σ st s).2.2.1 ∧ ¬ (rollS σ st s).2.2.1 = s ∧ σ 1 ((rollS σ st s).1 1 (rollS σ st s).2.2.1) < σ 1 ((rollS σ st s).1 1 s) ∧ 0 ≤ (rollS σ st s).2.2.2 ∧ (rollS σ st s).2.2.2 ≤ 998001 := by
    rcases a6 with z | z
    · exact absurd z ho
    · exact z
  obtain ⟨q, eq⟩ : ∃ q, rollS σ st s = q := ⟨_, rfl⟩
  rw [eq] at a3 a5 b1 b2 b3 b4 b5 ⊢
  have a3' : ∀ i, ¬ i = s → q.1 1 i = st 1 i := fun i hi => by rw [a3 i hi, zset_o (by decide)]
  have eo := a3' q.2.2.1 b4
  unfold bls
  have a := zct_mn (f := fun i => decide (st 1 i ≠ -1 ∧ σ 1 (st 1 i) < σ 1 (st 1 s)) && decide (i ≠ q.2.2.1)) (g := fun i => decide (q.1 1 i ≠ -1 ∧ σ 1 (q.1 1 i) < σ 1 (q.1 1 q.2.2.1))) (nS σ).toNat 0 (fun j _ _ hj => by
    have hj := of_decide_eq_true hj
    have hjs : ¬ j = s := fun z => by rw [z] at hj; omega
    rw [a3' j hjs] at hj
    rw [Bool.and_eq_true]
    refine ⟨decide_eq_true ⟨hj.1, by omega⟩, decide_eq_true (fun z => ?_)⟩
    rw [z, ← eo] at hj
    omega)
  have b := zct_upd (f := fun i => decide (st 1 i ≠ -1 ∧ σ 1 (st 1 i) < σ 1 (st 1 s))) (g := fun i => decide (st 1 i ≠ -1 ∧ σ 1 (st 1 i) < σ 1 (st 1 s)) && decide (i ≠ q.2.2.1)) (j := q.2.2.1) (decide_eq_true (by rw [← eo]; omega)) (by simp) (nS σ).toNat 0 b1.1 (by omega) (fun x _ _ hx => by simp [hx])
  omega
def trCells : zTr → List Int
  | [] => []
  | x :: tr => cellsOf x.2.2 ++ trCells tr
theorem trCells_app : ∀ a b : zTr, trCells (a ++ b) = trCells a ++ trCells b
  | [], b => rfl
  | x :: a, b => by
    show cellsOf x.2.2 ++ trCells (a ++ b) = cellsOf x.2.2 ++ trCells a ++ trCells b
    rw [trCells_app a b, List.append_assoc]
theorem cellsOf_len : ∀ rs : List zRec, (cellsOf rs).length ≤ rs.length
  | [] => Nat.le_refl _
  | r :: rs => by
    have := cellsOf_len rs
    show (if 2 ≤ r.1 then r.2.1 :: cellsOf rs else cellsOf rs).length ≤ rs.length + 1
    split
    · exact Nat.succ_le_succ this
    · omega
/-- what a drive of the reference comes to -/
def DPost (σ : zH) (D : zH × zTr) (v : Int) (Λ : zLw) (d : Nat) (E : List zEv) (R : Int) (W : List Int) (Δ : zDu) (h0 h h' : zH) : Prop :=
  RT σ D.1 v h' ∧ RS σ h' ∧ frR v h h' ∧ RV (E ++ trEv σ D.2) (R + D.2.length) h' ∧ RW (W ++ trCells D.2) h' ∧ DR v Λ d (dueF Λ σ Δ (ecl σ (trEv σ D.2))) h0 h'
theorem DPost.nil {σ st : zH} {v : Int} {Λ : zLw} {d : Nat} {E : List zEv} {R : Int} {W : List Int} {Δ : zDu} {h0 h : zH} (g : RS σ h) (t : RT σ st v h) (rv : RV E R h) (rw : RW W h) (dr : DR v Λ d Δ h0 h) : DPost σ (st, []) v Λ d E R W Δ h0 h h := by
  refine ⟨t, g, frR.rf h, ?_, ?_, dr⟩
  · show RV (E ++ []) (R + ((0 : Nat) : Int)) h
    rw [List.append_nil, show R + ((0 : Nat) : Int) = R by omega]; exact rv
  · show RW (W ++ []) h
    rw [List.append_nil]; exact rw
theorem q_R18 {σ : zH} (w : WS σ) {d : Nat} {v x6 : Int} {Λ : zLw} {h0 : zH} : ∀ (f : Nat) {st h : zH} {s p x7 x8 R : Int} {E : List zEv} {W : List Int} {Δ : zDu}, RS σ h → RT σ st v h → WT σ st → (s = -1 ∨ (0 ≤ s ∧ s < nS σ) ∧ (0 ≤ p ∧ p ≤ 2000000) ∧ bls σ st s < f) → RV E R h → RW W h → (W.length : Int) + 60 * f ≤ 800000 → (x8 = 0 ∨ x6 = W.length) → DR v Λ (d + 1) Δ h0 h →
    zWp (l_R_drives_18 (d + 3) v s p x6 x7 x8 h) (fun x h' => x = .inl (if x8 = 0 ∨ (if s ≠ -1 ∧ (st 1 s ≠ -1 ∧ σ 2 (st 1 s) ≠ -1 ∧ σ 14 s < p + σ 3 (st 1 s)) then s else -1) = -1 then x7 else ((pathT (drvB σ f st (if s ≠ -1 ∧ (st 1 s ≠ -1 ∧ σ 2 (st 1 s) ≠ -1 ∧ σ 14 s < p + σ 3 (st 1 s)) then s else -1)).2).length : Int)) ∧ DPost σ (drvB σ f st (if s ≠ -1 ∧ (st 1 s ≠ -1 ∧ σ 2 (st 1 s) ≠ -1 ∧ σ 14 s < p + σ 3 (st 1 s)) then s else -1)) v Λ (d + 1) E R W Δ h0 h h') := by
  intro f
  induction f with
  | zero =>
    intro st h s p x7 x8 R E W Δ g t wt hs rv rw hW h8 dr
    rcases hs with z | ⟨z1, z2, z3⟩
    · rw [el_R_drives_18]
      have e : (if s ≠ -1 ∧ (st 1 s ≠ -1 ∧ σ 2 (st 1 s) ≠ -1 ∧ σ 14 s < p + σ 3 (st 1 s)) then s else -1) = -1 := if_neg (fun y => y.1 z)
      rw [e]
      refine zWp_it z (zWp_s ⟨by rw [if_pos (Or.inr rfl)], DPost.nil g t rv rw dr⟩)
    · have := bls_le (st := st) w z1
      omega
  | succ f ih =>
    intro st h s p x7 x8 R E W Δ g t wt hs rv rw hW h8 dr
    rw [el_R_drives_18]
    have stop : ∀ S : Int, S = -1 → drvB σ (f + 1) st S = (st, []) := fun S e => by unfold drvB; rw [if_pos e]
    by_cases z : s = -1
    · have e : (if s ≠ -1 ∧ (st 1 s ≠ -1 ∧ σ 2 (st 1 s) ≠ -1 ∧ σ 14 s < p + σ 3 (st 1 s)) then s else -1) = -1 := if_neg (fun y => y.1 z)
      rw [e, stop (-1) rfl]
      exact zWp_it z (zWp_s ⟨by rw [if_pos (Or.inr rfl)], DPost.nil g t rv rw dr⟩)
    · obtain ⟨z1, z2, z3⟩ : (0 ≤ s ∧ s < nS σ) ∧ (0 ≤ p ∧ p ≤ 2000000) ∧ bls σ st s < ((f + 1 : Nat) : Int) := by
        rcases hs with y | y
        · exact absurd y z
        · exact y
      refine zWp_nt z (zWp_qi (q_R_starts w g t wt z1 z2) ?_)
      by_cases y : st 1 s ≠ -1 ∧ σ 2 (st 1 s) ≠ -1 ∧ σ 14 s < p + σ 3 (st 1 s)
      · have e : (if s ≠ -1 ∧ (st 1 s ≠ -1 ∧ σ 2 (st 1 s) ≠ -1 ∧ σ 14 s < p + σ 3 (st 1 s)) then s else -1) = s := if_pos ⟨z, y⟩
        rw [e, if_pos y]
        refine zWp_nt (by decide) ?_
        obtain ⟨x, h3, e3, rfl, u2, u3, u4, u5, u6, u7, u8⟩ := q_R_rolling (d := d) w g t wt z1 y.1 rv rw (by omega) dr
        refine zWp_qi e3 ?_
        have hok := rollS_ok w wt z1 y.1
        have hD : drvB σ (f + 1) st s = ((drvB σ f (rollS σ st s).1 (pushed σ (rollS σ st s))).1, (s, st 1 s, (rollS σ st s).2.1) :: (drvB σ f (rollS σ st s).1 (pushed σ (rollS σ st s))).2) := by rw [drvB, if_neg z]
        rw [hD]
        have hlen := rollA_len (σ := σ) 60 (zset st 2 s (st 2 s + 1)) s (st 1 s) 0 0
        have hcl := cellsOf_len (rollS σ st s).2.1
        have hcl60 : ((cellsOf (rollS σ st s).2.1).length : Int) ≤ 60 := by unfold rollS at hcl ⊢; omega
        have hW3 : (((W ++ cellsOf (rollS σ st s).2.1).length : Nat) : Int) + 60 * f ≤ 800000 := by rw [List.length_append]; omega
        have rest : ∀ x7', zWp (l_R_drives_59 (d + 3) v x6 x7' (rollS σ st s).2.2.1 h3) (fun x h' => x = .inl x7' ∧ DPost σ (drvB σ f (rollS σ st s).1 (pushed σ (rollS σ st s))) v Λ (d + 1) (E ++ evs s (σ 6 (st 1 s)) (rollS σ st s).2.1) (R + 1) (W ++ cellsOf (rollS σ st s).2.1) (dueF Λ σ Δ (ecl σ (evs s (σ 6 (st 1 s)) (rollS σ st s).2.1))) h0 h3 h') := by
          intro x7'
          rw [el_R_drives_59]
          obtain ⟨P, eP⟩ : ∃ P, h3 403 80 = P := ⟨_, rfl⟩
          rw [eP]
          have hnext : (rollS σ st s).2.2.1 = -1 ∨ (0 ≤ (rollS σ st s).2.2.1 ∧ (rollS σ st s).2.2.1 < nS σ) ∧ (0 ≤ P ∧ P ≤ 2000000) ∧ bls σ (rollS σ st s).1 (rollS σ st s).2.2.1 < f := by
            by_cases ho : (rollS σ st s).2.2.1 = -1
            · exact Or.inl ho
            · have hb := bls_lt w wt z1 y.1 ho
              rcases hok.2.2.2.2.2.1 with q | q
              · exact absurd q ho
              · refine Or.inr ⟨q.1, ?_, by omega⟩
                rw [← eP, u7 ho]
                exact ⟨q.2.2.2.2.2.1, by have := q.2.2.2.2.2.2; omega⟩
          refine zWp_m (ih u3 u2 hok.1 hnext u5 u6 hW3 (Or.inl rfl) u8) ?_
          rintro x h' ⟨k1, k2⟩
          have ep : (if (rollS σ st s).2.2.1 ≠ -1 ∧ ((rollS σ st s).1 1 (rollS σ st s).2.2.1 ≠ -1 ∧ σ 2 ((rollS σ st s).1 1 (rollS σ st s).2.2.1) ≠ -1 ∧ σ 14 (rollS σ st s).2.2.1 < P + σ 3 ((rollS σ st s).1 1 (rollS σ st s).2.2.1)) then (rollS σ st s).2.2.1 else -1) = pushed σ (rollS σ st s) := by
            unfold pushed
            by_cases ho : (rollS σ st s).2.2.1 = -1
            · rw [if_neg (fun q => q.1 ho), if_neg (fun q => q.1 ho)]
            · rw [← eP, u7 ho]
          rw [ep] at k2
          exact ⟨by rw [k1, if_pos (Or.inl rfl)], k2⟩
        have conv : ∀ h', DPost σ (drvB σ f (rollS σ st s).1 (pushed σ (rollS σ st s))) v Λ (d + 1) (E ++ evs s (σ 6 (st 1 s)) (rollS σ st s).2.1) (R + 1) (W ++ cellsOf (rollS σ st s).2.1) (dueF Λ σ Δ (ecl σ (evs s (σ 6 (st 1 s)) (rollS σ st s).2.1))) h0 h3 h' → DPost σ ((drvB σ f (rollS σ st s).1 (pushed σ (rollS σ st s))).1, (s, st 1 s, (rollS σ st s).2.1) :: (drvB σ f (rollS σ st s).1 (pushed σ (rollS σ st s))).2) v Λ (d + 1) E R W Δ h0 h h' := by
          rintro h' ⟨k1, k2, k3, k4, k5, k6⟩
          refine ⟨k1, k2, u4.t k3, ?_, ?_, ?_⟩
          · rw [List.append_assoc] at k4
            show RV (E ++ (evs s (σ 6 (st 1 s)) (rollS σ st s).2.1 ++ trEv σ _)) (R + (((_ :: (drvB σ f (rollS σ st s).1 (pushed σ (rollS σ st s))).2).length : Nat) : Int)) h'
            rw [List.length_cons, show R + (((drvB σ f (rollS σ st s).1 (pushed σ (rollS σ st s))).2.length + 1 : Nat) : Int) = R + 1 + ((drvB σ f (rollS σ st s).1 (pushed σ (rollS σ st s))).2.length : Int) by omega]
            exact k4
          · rw [List.append_assoc] at k5
            exact k5
          · show DR v Λ (d + 1) (dueF Λ σ Δ (ecl σ (evs s (σ 6 (st 1 s)) (rollS σ st s).2.1 ++ trEv σ _))) h0 h'
            rw [ecl_app, dueF_app]
            exact k6
        by_cases y8 : x8 = 0
        · refine zWp_it y8 (zWp_m (rest x7) ?_)
          rintro x h' ⟨k1, k2⟩
          exact ⟨by rw [k1, if_pos (Or.inl y8)], conv h' k2⟩
        · have hx6 : x6 = W.length := by
            rcases h8 with q | q
            · exact absurd q y8
            · exact q
          refine zWp_nt y8 (zWp_m (rest _) ?_)
          rintro x h' ⟨k1, k2⟩
          refine ⟨?_, conv h' k2⟩
          rw [k1, if_neg (fun q => by rcases q with q | q; exact y8 q; exact z q), u6.1, hx6, List.length_append, w32_i (by omega)]
          show Sum.inl _ = Sum.inl (((cellsOf (rollS σ st s).2.1).length : Nat) : Int)
          congr 1
          omega
      · have e : (if s ≠ -1 ∧ (st 1 s ≠ -1 ∧ σ 2 (st 1 s) ≠ -1 ∧ σ 14 s < p + σ 3 (st 1 s)) then s else -1) = -1 := if_neg (fun q => y q.2)
        rw [e, if_neg y, stop (-1) rfl]
        exact zWp_it rfl (zWp_s ⟨by rw [if_pos (Or.inr rfl)], DPost.nil g t rv rw dr⟩)
