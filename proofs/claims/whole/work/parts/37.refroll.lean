set_option maxRecDepth 20000 in
set_option maxHeartbeats 4000000 in
theorem q_R62 {σ : zH} (w : WS σ) {d : Nat} {v s x4 R : Int} {Λ : zLw} {h0 : zH} (hs : 0 ≤ s ∧ s < nS σ) (hx4 : 0 ≤ x4 ∧ x4 < nC σ) : ∀ (f : Nat) {st h : zH} {c sp k : Int} {E : List zEv} {W : List Int} {Δ : zDu}, RS σ h → RT σ st v h → WT σ st → st 1 s = c → 0 ≤ c ∧ c < nC σ → 0 ≤ sp ∧ sp + σ 1 c ≤ 999 → blw σ c < f → 0 ≤ k ∧ k + blw σ c ≤ 100 → RV E R h → RW W h → (W.length : Int) + f ≤ 900000 → DR v Λ (d + 1) Δ h0 h →
    zWp (l_R_rolling_62 (d + 2) v s c x4 (σ 13 s) sp k h) (RPost σ (rollA σ f st s c sp k) v s (σ 6 x4) Λ (d + 1) E R W Δ h0 h) := by
  intro f
  induction f with
  | zero =>
    intro st h c sp k E W Δ g t wt hc hcc hsp hbl hk rv rw hW dr
    have := blw_le w hcc
    omega
  | succ f ih =>
    intro st h c sp k E W Δ g t wt hc hcc hsp hbl hk rv rw hW dr
    have hv := t.1
    have hb := g.b
    have hnn := w.n
    have hS10 : nS σ ≤ 10 := w.2.1.2.2.2.1
    have hS0 : 0 ≤ nS σ := w.2.1.2.2.1
    have hH8 : nHo σ ≤ 8 := w.2.1.2.2.2.2.2.1
    have hW13 : 1 ≤ σ 13 s ∧ σ 13 s ≤ 999 := ⟨(w.2.2.2.2.1 s hs.1 hs.2).1, (w.2.2.2.2.1 s hs.1 hs.2).2.1⟩
    have hC := w.2.2.1 c hcc.1 hcc.2
    have e454 : h 454 c = σ 2 c := (g.2.2.1 c hcc.1 hcc.2).2.1
    have e455 : h 455 c = σ 3 c := (g.2.2.1 c hcc.1 hcc.2).2.2.1
    rw [el_R_rolling_62, e454, e455]
    refine zWp_it (by omega) ?_
    by_cases q2 : σ 2 c = -1
    · rw [rollA_no q2]
      refine zWp_it q2 (zWp_s ⟨rfl, t, g, frR.rf h, ?_, ?_, fun z => absurd rfl z, dr⟩)
      · show RV (E ++ []) R h; rw [List.append_nil]; exact rv
      · show RW (W ++ []) h; rw [List.append_nil]; exact rw
    obtain ⟨n, en⟩ : ∃ n, σ 2 c = n := ⟨_, rfl⟩
    have hN : (0 ≤ n ∧ n < nC σ) ∧ σ 3 c = σ 1 c - σ 1 n ∧ 1 ≤ σ 3 c := by
      rcases hC.2.2 with z | z
      · exact absurd z.1 q2
      · rw [en] at z; exact ⟨⟨z.1, z.2.1⟩, z.2.2⟩
    have hn := hN.1
    have hN1 := (w.2.2.1 n hn.1 hn.2).1
    clear hC
    have hbn : blw σ n < blw σ c := blw_lt hn (by omega)
    have hbn0 := (blw_le w hn).1
    obtain ⟨sp1, esp1⟩ : ∃ sp1, sp + σ 3 c = sp1 := ⟨_, rfl⟩
    have hsp1 : 1 ≤ sp1 ∧ sp1 ≤ 999 := by omega
    have hsn : sp1 + σ 1 n ≤ 999 := by omega
    have hF := frc hsp1 hW13
    have hE5 : 0 ≤ st 5 n ∧ st 5 n ≤ 9999 := ⟨(wt.2.1 n hn.1 hn.2).1, (wt.2.1 n hn.1 hn.2).2.1⟩
    have ic : w32 (w32 (60 * v) + n) = 60 * v + n := ixw (by omega) (by omega)
    rw [en, esp1, w32_i (x := sp1) (by omega), w32_i (x := sp1 * σ 13 s) (by omega)]
    refine zWp_nt (by omega) (zWp_it (by omega) (zWp_it (by omega) ?_))
    have key : zWp (l_R_rolling_117 (d + 2) v s x4 (σ 13 s) sp1 k n (sp1 * σ 13 s) (if h 403 77 < sp1 then sp1 else h 403 77) h) (RPost σ (rollA σ (f + 1) st s c sp k) v s (σ 6 x4) Λ (d + 1) E R W Δ h0 h) := by
      rw [el_R_rolling_117]
      refine zWp_lt fun h1 e1 => ?_
      have m1 : ∀ q, ¬ q = 77 → h1 403 q = h 403 q := fun q hq => by rw [e1, zset_j hq]
      have r1 : ∀ r, ¬ r = 403 → h1 r = h r := fun r hr => by rw [e1, zset_n hr]
      have f77 : h1 403 77 = if h 403 77 < sp1 then sp1 else h 403 77 := by rw [e1, zset_e]
      have f1 : frR v h h1 := by rw [e1]; exact frR.s (Or.inl ⟨rfl, by decide⟩)
      have g1 : RS σ h1 := g.r f1
      have t1 : RT σ st v h1 := t.fr (fun r a b => r1 r (by omega))
      have rw1 : RW W h1 := rw.fr (m1 79 (by decide)) (r1 456 (by decide))
      have dr1 : DR v Λ (d + 1) Δ h0 h1 := dr.fr (m1 12 (by decide)) (fun r hr => r1 r (by omega))
      have rvw := rv.w
      refine zWp_qi (q_R_stoneAt w g1 t1) ?_
      by_cases q4 : sAt σ st n = -1
      · refine zWp_it q4 ?_
        have hB := stepB_ok (k := k) w wt hs hn q4 hsp1
        have free : ∀ i, 0 ≤ i → i < nS σ → st 1 i ≠ n := fun i a b => sAt_free hS0 q4 ⟨a, b⟩
        have e448 : h1 448 (60 * v + n) = st 5 n := (t1.2.2.2 n hn.1 hn.2).1
        rw [ic, e448]
        -- behind the cell's own affairs
        have tail : ∀ (st1 hA : zH) (sp2 hsx : Int) (e : zRec), stepB σ st s n sp1 k = (come st1 s n, e, (if hsx = -1 then contS (come st1 s n) n sp2 else 0)) → WT σ st1 → sAt σ st1 n = -1 → 0 ≤ sp2 ∧ sp2 ≤ 1000000 → RT σ st1 v hA → RS σ hA → frR v h hA → RV (E ++ [(s, σ 6 x4, e)]) R hA → RW W hA → DR v Λ (d + 1) (dueF Λ σ Δ (ecl σ [(s, σ 6 x4, e)])) h0 hA → zWp (l_R_rolling_358 (d + 2) v s x4 (σ 13 s) sp2 k n hsx hA) (RPost σ (rollA σ (f + 1) st s c sp k) v s (σ 6 x4) Λ (d + 1) E R W Δ h0 h) := by
          intro st1 hA sp2 hsx e eB wtA hfA hsp2 tA gA fA rvA rwA drA
          obtain ⟨b1, b2, b3, b4, b5, b6, b7⟩ := hB
          rw [eB] at b1 b2 b4 b5
          have e1n : e.2.1 = n := b5.1
          have e2le : 2 ≤ e.1 := by
            rcases b4 with z | z
            · have z2 : come st1 s n 1 s = st 1 s := z.2
              rw [come_1, if_pos rfl, hc] at z2
              rw [← z2] at hN
              omega
            · exact z.1
          have ecell : cellsOf [e] = [n] := by
            show (if 2 ≤ e.1 then e.2.1 :: [] else []) = [n]
            rw [if_pos e2le, e1n]
          refine q_R358 w gA tA wtA hs hn hfA hsp2 (by omega) rwA (fun h' t' g' f' r' w' m' => ⟨fun hend => ?_, fun hgo => ?_⟩)
          · have eb0 : (if hsx = -1 then contS (come st1 s n) n sp2 else 0) = 0 := by
              rcases hend with z | z
              · rw [if_neg z]
              · split
                · exact z
                · rfl
            rw [eb0] at eB
            rw [rollA_end q2 (by rw [en]; exact q4) (by rw [en, esp1, eB]), en, esp1, eB]
            refine ⟨rfl, t', g', fA.t f', ?_, ?_, fun z => absurd rfl z, ?_⟩
            · obtain ⟨a1, a2, a3, a4, a5⟩ := rvA
              exact ⟨(m' 73 (by decide)).trans a1, (m' 74 (by decide)).trans a2, (m' 75 (by decide)).trans a3, (m' 76 (by decide)).trans a4, (m' 77 (by decide)).trans a5⟩
            · show RW (W ++ cellsOf [e]) h'
              rw [ecell]; exact w'
            · exact drA.fr (m' 12 (by decide)) (fun r hr => r' r (by omega))
          · obtain ⟨hg1, hg2⟩ := hgo
            rw [if_pos hg1] at eB b2
            have hb2 : 1 ≤ contS (come st1 s n) n sp2 ∧ contS (come st1 s n) n sp2 ≤ sp1 := by
              rcases b2 with z | z
              · exact absurd z hg2
              · exact ⟨z.1, z.2.1⟩
            rw [rollA_go q2 (by rw [en]; exact q4) (by rw [en, esp1, eB]; exact hg2), en, esp1, eB, w32_i (by omega)]
            have rv' : RV (E ++ [(s, σ 6 x4, e)]) R h' := by
              obtain ⟨a1, a2, a3, a4, a5⟩ := rvA
              exact ⟨(m' 73 (by decide)).trans a1, (m' 74 (by decide)).trans a2, (m' 75 (by decide)).trans a3, (m' 76 (by decide)).trans a4, (m' 77 (by decide)).trans a5⟩
            have hcs : come st1 s n 1 s = n := by rw [come_1, if_pos rfl]
            have hWl : (((W ++ [n]).length : Nat) : Int) + f ≤ 900000 := by rw [List.length_append]; simp; omega
            refine zWp_m (ih g' t' b1 hcs hn (by omega) (by omega) (by omega) rv' w' hWl (drA.fr (m' 12 (by decide)) (fun r hr => r' r (by omega)))) ?_
            rintro x h2 ⟨u1, u2, u3, u4, u5, u6, u7, u8⟩
            obtain ⟨q, eq⟩ : ∃ q, rollA σ f (come st1 s n) s n (contS (come st1 s n) n sp2) (k + 1) = q := ⟨_, rfl⟩
            rw [eq] at u1 u2 u5 u6 u7 u8 ⊢
            refine ⟨u1, u2, u3, (fA.t f').t u4, ?_, ?_, u7, ?_⟩
            · have : E ++ [(s, σ 6 x4, e)] ++ evs s (σ 6 x4) q.2.1 = E ++ evs s (σ 6 x4) (zcons e q).2.1 := by rw [List.append_assoc]; rfl
              rw [← this]; exact u5
            · have : W ++ [n] ++ cellsOf q.2.1 = W ++ cellsOf (zcons e q).2.1 := by
                rw [List.append_assoc]
                show W ++ ([n] ++ cellsOf q.2.1) = W ++ (if 2 ≤ e.1 then e.2.1 :: cellsOf q.2.1 else cellsOf q.2.1)
                rw [if_pos e2le, e1n]; rfl
              rw [← this]; exact u6
            · have : ecl σ (evs s (σ 6 x4) (zcons e q).2.1) = ecl σ [(s, σ 6 x4, e)] ++ ecl σ (evs s (σ 6 x4) q.2.1) := ecl_app σ [(s, σ 6 x4, e)] (evs s (σ 6 x4) q.2.1)
              rw [this, dueF_app]; exact u8
        -- nothing but the cell
        have noWall : ¬ 0 < st 5 n → ∀ hA, hA = h1 → zWp (l_R_rolling_205 (d + 2) v s x4 (σ 13 s) sp1 k n (sp1 * σ 13 s) (st 5 n) hA) (RPost σ (rollA σ (f + 1) st s c sp k) v s (σ 6 x4) Λ (d + 1) E R W Δ h0 h) := by
          intro q5 hA eA
          rw [eA, el_R_rolling_205]
          refine zWp_nt q5 ?_
          rw [el_R_rolling_263]
          refine zWp_qi (q_R_wholeAt w g1 t1 hn) ?_
          by_cases hw : σ 7 n ≠ -1 ∧ st 9 (σ 7 n) ≠ 1
          · have eB : stepB σ st s n sp1 k = (come (zset st 9 (σ 7 n) 1) s n, (3, n, sp1, σ 16 (σ 7 n), k), (if σ 7 n = -1 then contS (come (zset st 9 (σ 7 n) 1) s n) n sp1 else 0)) := by
              unfold stepB; rw [if_neg q5, if_pos hw, if_neg hw.1]
            have hD7 : -1 ≤ σ 7 n ∧ σ 7 n < nHo σ := ⟨(w.2.2.2.1 n hn.1 hn.2).2.2.2.2.2.2.1, (w.2.2.2.1 n hn.1 hn.2).2.2.2.2.2.2.2.1⟩
            have hh0 : 0 ≤ σ 7 n := by omega
            have hwo : 1 ≤ σ 16 (σ 7 n) ∧ σ 16 (σ 7 n) ≤ 999 := ⟨(w.2.2.2.2.2.1 _ hh0 hD7.2).1, (w.2.2.2.2.2.1 _ hh0 hD7.2).2.1⟩
            have ih8 : w32 (w32 (8 * v) + σ 7 n) = 8 * v + σ 7 n := ixw (by omega) (by omega)
            rw [if_pos hw, ih8]
            refine zWp_nt hw.1 (zWp_it (by omega) (zWp_lt fun h3 e3 => zWp_lt fun h4 e4 => ?_))
            have b4 : h4 403 12 = h 403 12 := by rw [e4, zset_j (by decide), e3, zset_o (by decide), m1 12 (by decide)]
            have ib8 : w32 (w32 (8 * h 403 12) + σ 7 n) = 8 * h 403 12 + σ 7 n := ixw (by omega) (by omega)
            have r4 : ∀ r, ¬ (r = 403 ∨ r = 447) → h4 r = h1 r := fun r hr => by rw [e4, zset_n (by omega), e3, zset_n (by omega)]
            have e422 : h4 422 (8 * h 403 12 + σ 7 n) = σ 16 (σ 7 n) := by rw [r4 422 (by decide), r1 422 (by decide)]; exact (g.2.2.2.2.2.1 _ hh0 hD7.2).1
            rw [b4, ib8, e422]
            refine zWp_it (by omega) (zWp_lt fun h5 e5 => ?_)
            have b5 : h5 403 12 = h 403 12 := by rw [e5, zset_j (by decide), b4]
            have r5 : ∀ r, ¬ (r = 403 ∨ r = 447) → h5 r = h1 r := fun r hr => by rw [e5, zset_n (by omega), r4 r hr]
            have e4225 : h5 422 (8 * h 403 12 + σ 7 n) = σ 16 (σ 7 n) := by rw [r5 422 (by decide), ← r4 422 (by decide)]; exact e422
            have f5 : frR v h1 h5 := by
              rw [e5, e4, e3]
              exact ((frR.s (Or.inr (Or.inr (Or.inl ⟨rfl, by omega⟩)))).t (frR.s (Or.inl ⟨rfl, by decide⟩))).t (frR.s (Or.inl ⟨rfl, by decide⟩))
            have m5 : ∀ q, ¬ (q = 74 ∨ q = 76) → h5 403 q = h1 403 q := fun q hq => by rw [e5, zset_j (by omega), e4, zset_j (by omega), e3, zset_o (by decide)]
            have f74 : h5 403 74 = w32 (h 403 74 + 1) := by rw [e5, zset_j (by decide), e4, zset_e, e3, zset_o (by decide), m1 74 (by decide)]
            have f76 : h5 403 76 = w32 (h 403 76 + σ 16 (σ 7 n)) := by rw [e5, zset_e, e4, zset_j (by decide), e3, zset_o (by decide), m1 76 (by decide)]
            have g5 : RS σ h5 := g1.r f5
            have t5 : RT σ (zset st 9 (σ 7 n) 1) v h5 := by
              have : RT σ (zset st 9 (σ 7 n) 1) v h3 := by rw [e3]; exact RT.h9 t1
              exact this.fr (fun r a b => by rw [e5, zset_n (by omega), e4, zset_n (by omega)])
            have dr5 : DR v Λ (d + 1) Δ h0 h5 := dr1.fr (by rw [b5, m1 12 (by decide)]) (fun r hr => r5 r (by omega))
            have rv5 : RV (E ++ [(s, σ 6 x4, (3, n, sp1, σ 16 (σ 7 n), k))]) R h5 := by
              refine RV.one rv _ (by rw [m5 73 (by decide), m1 73 (by decide)]) f74 ?_ f76 ?_
              · show _ = w32 (h 403 75 + 0); rw [m5 75 (by decide), m1 75 (by decide), rvw.2.1]
              · rw [m5 77 (by decide), f77]
            have rw5 : RW W h5 := rw1.fr (m5 79 (by decide)) (r5 456 (by decide))
            have go : ∀ h6, frR v h5 h6 → (∀ r, ¬ (r = 442 ∨ r = 443 ∨ r = 451 ∨ r = 452 ∨ r = 453) → h6 r = h5 r) → DR v Λ (d + 1) (dueF Λ σ Δ (ecl σ [(s, σ 6 x4, (3, n, sp1, σ 16 (σ 7 n), k))])) h0 h6 → zWp (l_R_rolling_358 (d + 2) v s x4 (σ 13 s) sp1 k n (σ 7 n) h6) (RPost σ (rollA σ (f + 1) st s c sp k) v s (σ 6 x4) Λ (d + 1) E R W Δ h0 h) := fun h6 f6 r6 d6 => by
              refine tail _ h6 sp1 (σ 7 n) _ eB (WT.h9 wt) (by rw [sAt_5 (by decide) hS0]; exact q4) (by omega) (t5.fr (fun r a b => r6 r (by omega))) (g5.r f6) ((f1.t f5).t f6) ?_ (rw5.fr (by rw [r6 403 (by decide)]) (r6 456 (by decide))) d6
              unfold RV; rw [r6 403 (by decide)]; exact rv5
            have ow := q_owesIf (d := d) (F := fun h6 => l_R_rolling_358 (d + 2) v s x4 (σ 13 s) sp1 k n (σ 7 n) h6) w g5 hs hx4 hn (show 0 ≤ sp1 ∧ sp1 ≤ 9999 by omega) (show 0 ≤ σ 16 (σ 7 n) ∧ σ 16 (σ 7 n) ≤ 9999 by omega) (show 0 ≤ k ∧ k ≤ 9999 by have := (blw_le w hcc).1; omega) (Or.inr rfl) (show (0 : Int) = if (3 : Int) = 2 then 1 else 0 from rfl) dr5 go
            rw [b5, ib8, e4225]
            by_cases z : v = 0
            · rw [if_pos z] at ow
              exact zWp_it z (zWp_it (by omega) ow)
            · rw [if_neg z] at ow
              exact zWp_nt z ow
          · have eB : stepB σ st s n sp1 k = (come st s n, (4, n, sp1, 0, k), (if (-1 : Int) = -1 then contS (come st s n) n sp1 else 0)) := by
              unfold stepB; rw [if_neg q5, if_neg hw, if_pos rfl]
            rw [if_neg hw]
            refine zWp_it rfl (tail st h1 sp1 (-1) _ eB wt q4 (by omega) t1 g1 f1 ?_ rw1 ?_)
            · refine RV.one rv _ (m1 73 (by decide)) ?_ ?_ ?_ f77
              · show _ = w32 (h 403 74 + 0); rw [m1 74 (by decide), rvw.1]
              · show _ = w32 (h 403 75 + 0); rw [m1 75 (by decide), rvw.2.1]
              · show _ = w32 (h 403 76 + 0); rw [m1 76 (by decide), rvw.2.2]
            · rw [ecl_n (fun y => by rcases y.1 with y | y <;> exact absurd y (show ¬ (4 : Int) = _ by decide))]
              exact dr1
        refine zWp_it (by omega) ?_
        by_cases q5 : 0 < st 5 n
        · refine zWp_it q5 ?_
          by_cases q6 : st 5 n < sp1 * σ 13 s
          · refine zWp_it q6 ?_
            have eB : stepB σ st s n sp1 k = (come (zset st 5 n 0) s n, (2, n, sp1, st 5 n, k), (if (-1 : Int) = -1 then contS (come (zset st 5 n 0) s n) n (Int.tdiv (sp1 * σ 13 s - st 5 n) (σ 13 s)) else 0)) := by
              unfold stepB; rw [if_pos q5, if_neg (by omega), if_pos rfl]
            rw [el_R_rolling_205, ic]
            refine zWp_it q5 (zWp_it (by omega) (zWp_lt fun h3 e3 => zWp_lt fun h4 e4 => ?_))
            have r4 : ∀ r, ¬ (r = 403 ∨ r = 448) → h4 r = h1 r := fun r hr => by rw [e4, zset_n (by omega), e3, zset_n (by omega)]
            have m4 : ∀ q, ¬ q = 75 → h4 403 q = h1 403 q := fun q hq => by rw [e4, zset_j hq, e3, zset_o (by decide)]
            have f75 : h4 403 75 = w32 (h 403 75 + 1) := by rw [e4, zset_e, e3, zset_o (by decide), m1 75 (by decide)]
            have f4 : frR v h1 h4 := by
              rw [e4, e3]
              exact (frR.s (Or.inr (Or.inr (Or.inr (Or.inl ⟨rfl, by omega⟩))))).t (frR.s (Or.inl ⟨rfl, by decide⟩))
            have g4 : RS σ h4 := g1.r f4
            have t4 : RT σ (zset st 5 n 0) v h4 := by
              have : RT σ (zset st 5 n 0) v h3 := by rw [e3]; exact RT.h5 t1
              exact this.fr (fun r a b => by rw [e4, zset_n (by omega)])
            have wt5 : WT σ (zset st 5 n 0) := wt.h5 (by omega) hn
            have dr4 : DR v Λ (d + 1) Δ h0 h4 := dr1.fr (m4 12 (by decide)) (fun r hr => r4 r (by omega))
            have rv4 : RV (E ++ [(s, σ 6 x4, (2, n, sp1, st 5 n, k))]) R h4 := by
              refine RV.one rv _ (by rw [m4 73 (by decide), m1 73 (by decide)]) ?_ f75 ?_ ?_
              · show _ = w32 (h 403 74 + 0); rw [m4 74 (by decide), m1 74 (by decide), rvw.1]
              · show _ = w32 (h 403 76 + 0); rw [m4 76 (by decide), m1 76 (by decide), rvw.2.2]
              · rw [m4 77 (by decide), f77]
            have rw4 : RW W h4 := rw1.fr (m4 79 (by decide)) (r4 456 (by decide))
            have hq : 0 ≤ Int.tdiv (sp1 * σ 13 s - st 5 n) (σ 13 s) ∧ Int.tdiv (sp1 * σ 13 s - st 5 n) (σ 13 s) ≤ 998001 := by
              rw [Int.tdiv_eq_ediv_of_nonneg (by omega)]
              refine ⟨Int.ediv_nonneg (by omega) (by omega), ?_⟩
              have := Int.ediv_le_self (σ 13 s) (show 0 ≤ sp1 * σ 13 s - st 5 n by omega)
              omega
            have whn : ¬ (σ 7 n ≠ -1 ∧ zset st 5 n 0 9 (σ 7 n) ≠ 1) := fun z => by
              rcases (wt.2.1 n hn.1 hn.2).2.2.2.2.2 q5 with y | y
              · exact z.1 y
              · exact z.2 (by rw [zset_o (by decide)]; exact y)
            have hkk : 0 ≤ k ∧ k ≤ 9999 := by have := (blw_le w hcc).1; omega
            refine q_owesIf (d := d) (F := fun h6 => zdz (σ 13 s) (l_R_rolling_263 (d + 2) v s x4 (σ 13 s) (w32 (Int.tdiv (w32 (sp1 * σ 13 s - st 5 n)) (σ 13 s))) k n h6)) w g4 hs hx4 hn (show 0 ≤ sp1 ∧ sp1 ≤ 9999 by omega) (show 0 ≤ st 5 n ∧ st 5 n ≤ 9999 from hE5) hkk (Or.inl rfl) (show (1 : Int) = if (2 : Int) = 2 then 1 else 0 from rfl) dr4 (fun h6 f6 r6 d6 => zWp_dz (by omega) ?_)
            have t6 : RT σ (zset st 5 n 0) v h6 := t4.fr (fun r a b => r6 r (by omega))
            have g6 : RS σ h6 := g4.r f6
            rw [el_R_rolling_263, w32_i (x := sp1 * σ 13 s - st 5 n) (by omega), w32_i (by omega)]
            refine zWp_qi (q_R_wholeAt w g6 t6 hn) ?_
            rw [if_neg whn]
            refine zWp_it rfl (tail _ h6 _ (-1) _ eB wt5 (by rw [sAt_5 (by decide) hS0]; exact q4) (by omega) t6 g6 ((f1.t f4).t f6) ?_ (rw4.fr (by rw [r6 403 (by decide)]) (r6 456 (by decide))) d6)
            unfold RV; rw [r6 403 (by decide)]; exact rv4
          · refine zWp_nt q6 (zWp_it (by omega) (zWp_lt fun h4 e4 => zWp_s ?_))
            have eB : stepB σ st s n sp1 k = (zset st 5 n (st 5 n - sp1 * σ 13 s), (1, n, sp1, st 5 n, k), 0) := by
              unfold stepB; rw [if_pos q5, if_pos (by omega)]
            rw [w32_i (by omega)] at e4
            rw [rollA_end q2 (by rw [en]; exact q4) (by rw [en, esp1, eB]), en, esp1, eB]
            have r4 : ∀ r, ¬ r = 448 → h4 r = h1 r := fun r hr => by rw [e4, zset_n hr]
            have f4 : frR v h1 h4 := by rw [e4]; exact frR.s (Or.inr (Or.inr (Or.inr (Or.inl ⟨rfl, by omega⟩))))
            refine ⟨rfl, by rw [e4]; exact RT.h5 t1, g1.r f4, f1.t f4, ?_, ?_, fun z => absurd rfl z, ?_⟩
            · show RV (E ++ [(s, σ 6 x4, ((1 : Int), n, sp1, st 5 n, k))]) R h4
              refine RV.one rv _ (by rw [r4 403 (by decide), m1 73 (by decide)]) ?_ ?_ ?_ (by rw [r4 403 (by decide), f77])
              · show _ = w32 (h 403 74 + 0); rw [r4 403 (by decide), m1 74 (by decide), rvw.1]
              · show _ = w32 (h 403 75 + 0); rw [r4 403 (by decide), m1 75 (by decide), rvw.2.1]
              · show _ = w32 (h 403 76 + 0); rw [r4 403 (by decide), m1 76 (by decide), rvw.2.2]
            · show RW (W ++ []) h4
              rw [List.append_nil]; exact rw1.fr (by rw [r4 403 (by decide)]) (r4 456 (by decide))
            · show DR v Λ (d + 1) (dueF Λ σ Δ (ecl σ [(s, σ 6 x4, ((1 : Int), n, sp1, st 5 n, k))])) h0 h4
              rw [ecl_n (fun y => by rcases y.1 with y | y <;> exact absurd y (show ¬ (1 : Int) = _ by decide))]
              exact dr1.fr (by rw [r4 403 (by decide)]) (fun r hr => r4 r (by omega))
        · exact zWp_nt q5 (noWall q5 h1 rfl)
      · refine zWp_nt q4 ?_
        have hO := sAt_in hS0 q4
        obtain ⟨o, eo⟩ : ∃ o, sAt σ st n = o := ⟨_, rfl⟩
        rw [eo] at hO q4 ⊢
        have hWo : 1 ≤ σ 13 o ∧ σ 13 o ≤ 999 := ⟨(w.2.2.2.2.1 o hO.1 hO.2.1).1, (w.2.2.2.2.1 o hO.1 hO.2.1).2.1⟩
        have io : w32 (w32 (10 * h 403 12) + o) = 10 * h 403 12 + o := ixw (by omega) (by omega)
        have e417 : h1 417 (10 * h 403 12 + o) = σ 13 o := by rw [r1 417 (by decide)]; exact (g.2.2.2.2.1 o hO.1 hO.2.1).1
        rw [m1 12 (by decide), io, e417]
        have hp : 0 ≤ Int.tdiv (sp1 * σ 13 s) (σ 13 o) ∧ Int.tdiv (sp1 * σ 13 s) (σ 13 o) ≤ 998001 := by
          rw [Int.tdiv_eq_ediv_of_nonneg (by omega)]
          refine ⟨Int.ediv_nonneg (by omega) (by omega), ?_⟩
          have := Int.ediv_le_self (σ 13 o) (show 0 ≤ sp1 * σ 13 s by omega)
          omega
        refine zWp_it (by omega) (zWp_dz (by omega) (zWp_lt fun h5 e5 => zWp_s ?_))
        rw [w32_i (by omega)] at e5
        rw [rollA_bar q2 (by rw [en, eo]; exact q4), en, eo, esp1]
        have r5 : ∀ r, ¬ r = 403 → h5 r = h1 r := fun r hr => by rw [e5, zset_n hr]
        have m5 : ∀ q, ¬ q = 80 → h5 403 q = h1 403 q := fun q hq => by rw [e5, zset_j hq]
        have f5 : frR v h1 h5 := by rw [e5]; exact frR.s (Or.inl ⟨rfl, by decide⟩)
        refine ⟨rfl, t1.fr (fun r a b => r5 r (by omega)), g1.r f5, f1.t f5, ?_, ?_, fun _ => by rw [e5, zset_e], ?_⟩
        · show RV (E ++ [(s, σ 6 x4, ((0 : Int), n, sp1, o, k))]) R h5
          refine RV.one rv _ (by rw [m5 73 (by decide), m1 73 (by decide)]) ?_ ?_ ?_ (by rw [m5 77 (by decide), f77])
          · show _ = w32 (h 403 74 + 0); rw [m5 74 (by decide), m1 74 (by decide), rvw.1]
          · show _ = w32 (h 403 75 + 0); rw [m5 75 (by decide), m1 75 (by decide), rvw.2.1]
          · show _ = w32 (h 403 76 + 0); rw [m5 76 (by decide), m1 76 (by decide), rvw.2.2]
        · show RW (W ++ []) h5
          rw [List.append_nil]; exact rw1.fr (m5 79 (by decide)) (r5 456 (by decide))
        · show DR v Λ (d + 1) (dueF Λ σ Δ (ecl σ [(s, σ 6 x4, ((0 : Int), n, sp1, o, k))])) h0 h5
          rw [ecl_n (fun y => by rcases y.1 with y | y <;> exact absurd y (show ¬ (0 : Int) = _ by decide))]
          exact dr1.fr (m5 12 (by decide)) (fun r hr => r5 r (by omega))
    by_cases z : h 403 77 < sp1
    · rw [if_pos z] at key ⊢; exact key
    · rw [if_neg z] at key ⊢; exact key
