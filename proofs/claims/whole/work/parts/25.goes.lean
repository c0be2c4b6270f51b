set_option maxHeartbeats 4000000 in
theorem q_goesOn {d : Nat} {σ st : zH} {a T m s n sp k pay : Int} {h : zH} {E : List zEv} {R : Int} {P : List Int} (g : CS σ a h) (w : WS σ) (t : CT σ st T h) (wt : WT σ st) (hm : MA m) (ea : h m 11 = a) (eT : h m 12 = T) (es : h m 14 = s) (esp : h m 15 = sp) (ek : h m 16 = k) (ep : h m 17 = pay) (hsp : 1 ≤ sp ∧ sp ≤ 999) (hs : 0 ≤ s ∧ s < nS σ) (hl : st 1 s ≠ -1) (hn : 0 ≤ n ∧ n < nC σ) (hf : sAt σ st n = -1) (hp : okP h m) (mv : MV σ E R P m h) (hc : ((ecl σ E).length : Int) + rem σ st ≤ 68) :
    zWp (m_Mover_goesOnFrom (d + 2) m n (sp * σ 13 s) h) (fun v h' => v = .inl (if (stepB σ st s n sp k).2.2 = 0 then 0 else 1) ∧ CT σ (stepB σ st s n sp k).1 T h' ∧ ((stepB σ st s n sp k).2.2 ≠ 0 → h' m 15 = (stepB σ st s n sp k).2.2 ∧ h' m 16 = w32 (k + 1)) ∧ (∀ r, ¬ (T ≤ r ∧ r < T + 8 ∨ m ≤ r ∧ r < m + 3) → h' r = h r) ∧ (∀ q, q = 7 ∨ q = 11 ∨ q = 12 ∨ q = 13 ∨ q = 14 ∨ q = 17 → h' m q = h m q) ∧ MV σ (E ++ [(s, pay, (stepB σ st s n sp k).2.1)]) R (if 2 ≤ (stepB σ st s n sp k).2.1.1 then fst1 h m P n else P) m h') := by
  have hT := t.1.low
  have hap := hm.ap t.1
  have hml := hm.low
  have hnn := w.n
  have hS10 : nS σ ≤ 10 := w.2.1.2.2.2.1
  have hS0 : 0 ≤ nS σ := w.2.1.2.2.1
  have hH8 : nHo σ ≤ 8 := w.2.1.2.2.2.2.2.1
  have ha := g.a
  have hW : 1 ≤ σ 13 s ∧ σ 13 s ≤ 999 := ⟨(w.2.2.2.2.1 s hs.1 hs.2).1, (w.2.2.2.2.1 s hs.1 hs.2).2.1⟩
  have hF := frc hsp hW
  have hD7 : -1 ≤ σ 7 n ∧ σ 7 n < nHo σ := ⟨(w.2.2.2.1 n hn.1 hn.2).2.2.2.2.2.2.1, (w.2.2.2.1 n hn.1 hn.2).2.2.2.2.2.2.2.1⟩
  have hE5 : 0 ≤ st 5 n ∧ st 5 n ≤ 9999 := ⟨(wt.2.1 n hn.1 hn.2).1, (wt.2.1 n hn.1 hn.2).2.1⟩
  have hmi := mv.mi
  have e5 : h (T + 5) n = st 5 n := t.ho (by omega)
  have e7 : h (a + 7) n = σ 7 n := g.g 7 (by omega)
  rw [em_Mover_goesOnFrom]
  simp only [eT, ea, e5, e7]
  refine zWp_po (by omega) (zWp_po (by omega) (zWp_po (by omega) (zWp_it (by omega) (zWp_po (by omega) (zWp_po (by omega) (zWp_po (by omega) (zWp_it (by omega) (zWp_po (by omega) (zWp_if (fun q5 => ?_) (fun q5 => ?_))))))))))
  · -- a wall
    rw [el_Mover_goesOnFrom_35]
    refine zWp_qi q_oneIf (zWp_po (by omega) (zWp_lt fun h3 e3 => ?_))
    rw [if_neg (by omega)] at e3
    have fr3 : ∀ r, ¬ r = m → h3 r = h r := fun r hr => by rw [e3, zset_n hr]
    have fm3 : ∀ q, ¬ q = 5 → h3 m q = h m q := fun q hq => by rw [e3, zset_j hq]
    have f5 : h3 m 5 = w32 (h m 5 + 1) := by rw [e3, zset_e]
    have g3 : CS σ a h3 := g.fr (fun r r1 r2 => fr3 r (by omega))
    have t3 : CT σ st T h3 := t.fr (fun r r1 r2 => fr3 r (by omega))
    have eT3 : h3 m 12 = T := (fm3 12 (by decide)).trans eT
    have ea3 : h3 m 11 = a := (fm3 11 (by decide)).trans ea
    refine zWp_it q5 (zWp_if (fun q6 => ?_) (fun q6 => ?_))
    · -- it goes
      have eB : stepB σ st s n sp k = (come (zset st 5 n 0) s n, (2, n, sp, st 5 n, k), contS (come (zset st 5 n 0) s n) n (Int.tdiv (sp * σ 13 s - st 5 n) (σ 13 s))) := by
        unfold stepB; rw [if_pos q5, if_neg (by omega)]
      rw [eB, el_Mover_goesOnFrom_65]
      refine zWp_it q5 (zWp_po (by omega) (zWp_bv (q_claim g3 w hm ea3 hn (by rw [fm3 10 (by decide), mv.2.2.2.2.2.2.2.1]; have := rem_wall hn q5; have := rem_le (st := zset st 5 n 0) w; omega)) fun _ h8 ⟨r8, m8, cn, cy⟩ => ?_))
      have eT8 : h8 m 12 = T := (m8 12 (by decide)).trans eT3
      rw [eT8]
      refine zWp_po (by omega) (zWp_po (by omega) (zWp_po (by omega) (zWp_it (by omega) (zWp_lt fun h9 e9 => zWp_po (by omega) (zWp_po (by omega) (zWp_lt fun h10 e10 => ?_))))))
      have m9 : ∀ q, h9 m q = h8 m q := fun q => by rw [e9, zset_o (by omega)]
      have r9 : ∀ r, ¬ r = T + 5 → h9 r = h8 r := fun r hr => by rw [e9, zset_n hr]
      have m10 : ∀ q, ¬ q = 6 → h10 m q = h8 m q := fun q hq => by rw [e10, zset_j hq, m9]
      have r10 : ∀ r, ¬ (r = m ∨ r = T + 5) → h10 r = h8 r := fun r hr => by rw [e10, zset_n (by omega), r9 r (by omega)]
      have f6 : h10 m 6 = w32 (h m 6 + 1) := by rw [e10, zset_e, m9, m8 6 (by decide), fm3 6 (by decide)]
      have ea10 : h10 m 11 = a := by rw [m10 11 (by decide), m8 11 (by decide), ea3]
      have es10 : h10 m 14 = s := by rw [m10 14 (by decide), m8 14 (by decide), fm3 14 (by decide), es]
      have ew : h10 (a + 13) s = σ 13 s := by rw [r10 _ (by omega), r8 _ (by omega), g3.g 13 (by omega)]
      simp only [ea10, es10, ew]
      refine zWp_po (by omega) (zWp_po (by omega) (zWp_po (by omega) (zWp_po (by omega) (zWp_it (by omega) ?_))))
      have hw32 : w32 (sp * σ 13 s - st 5 n) = sp * σ 13 s - st 5 n := w32_i (by omega)
      have hq : 0 ≤ Int.tdiv (sp * σ 13 s - st 5 n) (σ 13 s) ∧ Int.tdiv (sp * σ 13 s - st 5 n) (σ 13 s) ≤ 998001 := by
        rw [Int.tdiv_eq_ediv_of_nonneg (by omega)]
        refine ⟨Int.ediv_nonneg (by omega) (by omega), ?_⟩
        have := Int.ediv_le_self (σ 13 s) (show 0 ≤ sp * σ 13 s - st 5 n by omega)
        omega
      refine zWp_qi (v := Int.tdiv (sp * σ 13 s - st 5 n) (σ 13 s)) (h := h10) (by rw [em_Mover_quotient, hw32, if_pos (by omega), zdz_t (by omega), w32_i (by omega)]) (zWp_po (by omega) (zWp_lt fun h13 e13 => ?_))
      have m13 : ∀ q, ¬ q = 15 → h13 m q = h10 m q := fun q hq => by rw [e13, zset_j hq]
      have r13 : ∀ r, ¬ r = m → h13 r = h10 r := fun r hr => by rw [e13, zset_n hr]
      have t9 : CT σ (zset st 5 n 0) T h9 := by
        rw [e9]; exact CT.h5 w (t3.fr (fun r r1 r2 => r8 r (by omega)))
      have t13 : CT σ (zset st 5 n 0) T h13 := t9.fr (fun r r1 r2 => by rw [r13 r (by omega), e10, zset_n (by omega)])
      have wt5 : WT σ (zset st 5 n 0) := by
        refine ⟨fun i i1 i2 => ?_, fun c c1 c2 => ?_, fun i i1 i2 => ?_⟩
        · refine ⟨?_, fun j j1 j2 j3 => ?_⟩
          · rw [zset_o (by omega)]; exact (wt.1 i i1 i2).1
          · rw [zset_o (by omega), zset_o (by omega)] at j3
            rw [zset_o (by omega)]; exact (wt.1 i i1 i2).2 j j1 j2 j3
        · have := wt.2.1 c c1 c2
          rw [zset_g, zset_o (by omega), zset_o (by omega), zset_o (by omega)]
          split
          · exact ⟨by omega, by omega, this.2.2.1, this.2.2.2.1, this.2.2.2.2.1, fun z => by omega⟩
          · exact this
        · rw [zset_o (by omega)]; exact wt.2.2 i i1 i2
      have hf5 : sAt σ (zset st 5 n 0) n = -1 := by rw [sAt_5 (by decide) hS0]; exact hf
      have M : ∀ q, ¬ (q = 15 ∨ q = 6 ∨ q = 10 ∨ q = 5) → h13 m q = h m q := fun q hq => by rw [m13 q (by omega), m10 q (by omega), m8 q (by omega), fm3 q (by omega)]
      refine zWp_m (q_goes207 (d := d) w t13 wt5 hm ((M 12 (by decide)).trans eT) ((M 14 (by decide)).trans es) (by rw [e13, zset_e]) (by omega) hs (by rw [zset_o (by omega)]; exact hl) hn hf5 (hp.cg (M 13 (by decide)) (M 1 (by decide)))) ?_
      rintro v h' ⟨k1, k2, k3, k4, k5, k6, k7, k8, k9⟩
      refine ⟨k1, k2, fun z => ⟨k3 z, by rw [k6, M 16 (by decide), ek]⟩, fun r hr => ?_, fun q hq => ?_, ?_⟩
      · rw [k4 r (by omega), r13 r (by omega), r10 r (by omega), r8 r (by omega), fr3 r (by omega)]
      · rw [k5 q (by omega), M q (by omega)]
      · have N : ∀ q, ¬ (q = 15 ∨ q = 6 ∨ q = 10 ∨ q = 5 ∨ q = 1 ∨ q = 8 ∨ q = 16) → h' m q = h m q := fun q hq => by rw [k5 q (by omega), M q (by omega)]
        refine MV.snoc mv (s, pay, (2, n, sp, st 5 n, k)) (N 2 (by decide)) ?_ ?_ ?_ ?_ (fun z => absurd (show (2 : Int) ≤ 2 by omega) z) (fun _ => ?_) (show 0 ≤ n ∧ n < 60 by omega) ?_ ?_
        · show h' m 3 = w32 (h m 3 + 0); rw [N 3 (by decide), Int.add_zero, hmi 3 (by decide) (by decide)]
        · show h' m 4 = w32 (h m 4 + 0); rw [N 4 (by decide), Int.add_zero, hmi 4 (by decide) (by decide)]
        · show h' m 5 = w32 (h m 5 + 1); rw [k5 5 (by decide), m13 5 (by decide), m10 5 (by decide), m8 5 (by decide), f5]
        · show h' m 6 = w32 (h m 6 + 1); rw [k5 6 (by decide), m13 6 (by decide), f6]
        · rw [k7, M 8 (by decide)]
        · rw [show (if 2 ≤ ((2 : Int), n, sp, st 5 n, k).1 then fst1 h m P n else P) = fst1 h m P n from if_pos (show (2 : Int) ≤ 2 by omega)]
          have p13 : h13 (m + 1) = h (m + 1) := by rw [r13 _ (by omega), r10 _ (by omega), r8 _ (by omega), fr3 _ (by omega)]
          exact pth mv.2.2.2.2.2.2.1 (fun z => by rw [← M 1 (by decide), ← p13]; exact k8 (by rw [M 13 (by decide)]; exact z)) (fun z => by rw [← M 1 (by decide), ← p13]; exact k9 (by rw [M 13 (by decide)]; exact z))
        · have c2 : h' (m + 2) = h8 (m + 2) := by rw [k4 _ (by omega), r13 _ (by omega), r10 _ (by omega)]
          have c10 : h' m 10 = h8 m 10 := by rw [k5 10 (by decide), m13 10 (by decide), m10 10 (by decide)]
          have e17 : h3 m 17 = pay := (fm3 17 (by decide)).trans ep
          rw [e17, fm3 10 (by decide), fr3 (m + 2) (by omega)] at cn
          rw [e17, fm3 10 (by decide), fm3 14 (by decide), fm3 15 (by decide), fm3 16 (by decide), fr3 (m + 2) (by omega), es, esp, ek] at cy
          exact MV.cl mv (e := (s, pay, (2, n, sp, st 5 n, k))) (fun z => by rw [c2, c10]; exact cy ⟨fun y => z (Or.inl y), fun y => z (Or.inr (Or.inl y)), fun y => z (Or.inr (Or.inr y))⟩) (fun z => by rw [c2, c10]; exact cn z) (Or.inl rfl)
    · -- it holds
      have eB : stepB σ st s n sp k = (zset st 5 n (st 5 n - sp * σ 13 s), (1, n, sp, st 5 n, k), 0) := by
        unfold stepB; rw [if_pos q5, if_pos (by omega)]
      rw [eB, eT3]
      refine zWp_po (by omega) (zWp_po (by omega) (zWp_po (by omega) (zWp_it (by omega) (zWp_lt fun h4 e4 => zWp_s ?_))))
      rw [w32_i (by omega)] at e4
      have m4 : ∀ q, h4 m q = h3 m q := fun q => by rw [e4, zset_o (by omega)]
      have r4 : ∀ r, ¬ r = T + 5 → h4 r = h3 r := fun r hr => by rw [e4, zset_n hr]
      refine ⟨rfl, by rw [e4]; exact CT.h5 w t3, fun z => absurd rfl z, fun r hr => by rw [r4 r (by omega), fr3 r (by omega)], fun q hq => by rw [m4, fm3 q (by omega)], ?_⟩
      have N : ∀ q, ¬ q = 5 → h4 m q = h m q := fun q hq => by rw [m4, fm3 q hq]
      refine MV.snoc mv (s, pay, (1, n, sp, st 5 n, k)) (N 2 (by decide)) ?_ ?_ ?_ ?_ (fun _ => N 8 (by decide)) (fun z => absurd z (show ¬ (2 : Int) ≤ 1 by omega)) (show 0 ≤ n ∧ n < 60 by omega) ?_ ?_
      · show h4 m 3 = w32 (h m 3 + 0); rw [N 3 (by decide), Int.add_zero, hmi 3 (by decide) (by decide)]
      · show h4 m 4 = w32 (h m 4 + 0); rw [N 4 (by decide), Int.add_zero, hmi 4 (by decide) (by decide)]
      · show h4 m 5 = w32 (h m 5 + 1); rw [m4, f5]
      · show h4 m 6 = w32 (h m 6 + 0); rw [N 6 (by decide), Int.add_zero, hmi 6 (by decide) (by decide)]
      · rw [show (if 2 ≤ ((1 : Int), n, sp, st 5 n, k).1 then fst1 h m P n else P) = P from if_neg (show ¬ (2 : Int) ≤ 1 by omega), N 1 (by decide), r4 _ (by omega), fr3 _ (by omega)]
        exact mv.2.2.2.2.2.2.1
      · exact MV.same mv (show ¬ ((1 : Int) = 2 ∨ (1 : Int) = 3) by omega) (N 10 (by decide)) (by rw [r4 _ (by omega), fr3 _ (by omega)])
  · -- no wall
    rw [el_Mover_goesOnFrom_35]
    refine zWp_qi q_oneIf (zWp_po (by omega) (zWp_lt fun h3 e3 => zWp_nt q5 ?_))
    rw [if_pos rfl, Int.add_zero, hmi 5 (by decide) (by decide)] at e3
    have fr3 : ∀ r, ¬ r = m → h3 r = h r := fun r hr => by rw [e3, zset_n hr]
    have fm3 : ∀ q, h3 m q = h m q := fun q => by
      rw [e3, zset_g]
      split
      · rename_i z; rw [z]
      · rfl
    have hh : h3 = h := by
      funext r
      by_cases z : r = m
      · rw [z]; funext q; exact fm3 q
      · exact fr3 r z
    rw [hh, el_Mover_goesOnFrom_65]
    refine zWp_nt q5 ?_
    clear e3 fr3 fm3 hh
    by_cases hw : σ 7 n ≠ -1 ∧ st 9 (σ 7 n) ≠ 1
    · -- a house
      have eB : stepB σ st s n sp k = (come (zset st 9 (σ 7 n) 1) s n, (3, n, sp, σ 16 (σ 7 n), k), 0) := by
        unfold stepB; rw [if_neg q5, if_pos hw]
      have hw0 : 0 ≤ σ 7 n ∧ σ 7 n < 8 := by omega
      have h16 := w.2.2.2.2.2.1 (σ 7 n) (by omega) (by omega)
      have hwo : 1 ≤ σ 16 (σ 7 n) ∧ σ 16 (σ 7 n) ≤ 999 := ⟨h16.1, h16.2.1⟩
      clear h16
      rw [eB]
      refine zWp_nt hw.1 (zWp_po (by omega) ?_)
      rw [eT]
      refine zWp_po (by omega) (zWp_qi (q_isRuin t hw0) ?_)
      have e16 : h (a + 16) (σ 7 n) = σ 16 (σ 7 n) := g.g 16 (by decide)
      rw [if_neg hw.2, ea, e16]
      have hrm := rem_house (σ := σ) (st := st) (n := σ 7 n) (by omega) hw.2
      have hrl := rem_le (st := zset st 9 (σ 7 n) 1) w
      have hk10 : 0 ≤ h m 10 ∧ h m 10 < 68 := by rw [mv.2.2.2.2.2.2.2.1]; omega
      clear hrm hrl hc
      refine zWp_it rfl (zWp_po (by omega) (zWp_po (by omega) (zWp_po (by omega) (zWp_it (by omega) (zWp_po (by omega) (zWp_bv (q_claim g w hm ea hn hk10) fun _ h8 ⟨r8, m8, cn, cy⟩ => ?_))))))
      have eT8 : h8 m 12 = T := (m8 12 (by decide)).trans eT
      rw [eT8]
      refine zWp_po (by omega) (zWp_po (by omega) (zWp_po (by omega) (zWp_lt fun h4 e4 => zWp_po (by omega) (zWp_po (by omega) (zWp_lt fun h5 e5 => ?_)))))
      have m4 : ∀ q, h4 m q = h8 m q := fun q => by rw [e4, zset_o (by omega)]
      have r4 : ∀ r, ¬ r = T → h4 r = h8 r := fun r hr => by rw [e4, zset_n hr]
      have m5 : ∀ q, ¬ q = 3 → h5 m q = h8 m q := fun q hq => by rw [e5, zset_j hq, m4]
      have r5 : ∀ r, ¬ (r = m ∨ r = T) → h5 r = h8 r := fun r hr => by rw [e5, zset_n (by omega), r4 r (by omega)]
      have f3 : h5 m 3 = w32 (h m 3 + 1) := by rw [e5, zset_e, m4, m8 3 (by decide)]
      have ea5 : h5 m 11 = a := by rw [m5 11 (by decide), m8 11 (by decide), ea]
      have e165 : h5 (a + 16) (σ 7 n) = σ 16 (σ 7 n) := by rw [r5 _ (by omega), r8 _ (by omega), e16]
      rw [ea5, e165]
      refine zWp_po (by omega) (zWp_po (by omega) (zWp_po (by omega) (zWp_po (by omega) (zWp_it (by omega) (zWp_po (by omega) (zWp_lt fun h6 e6 => zWp_po (by omega) ?_))))))
      have m6 : ∀ q, ¬ q = 4 → h6 m q = h5 m q := fun q hq => by rw [e6, zset_j hq]
      have r6 : ∀ r, ¬ r = m → h6 r = h5 r := fun r hr => by rw [e6, zset_n hr]
      have f4 : h6 m 4 = w32 (h m 4 + σ 16 (σ 7 n)) := by rw [e6, zset_e, m5 4 (by decide), m8 4 (by decide)]
      have t4 : CT σ (zset st 9 (σ 7 n) 1) T h4 := by
        rw [e4]; exact CT.h9 w (t.fr (fun r r1 r2 => r8 r (by omega))) hw0
      have t6 : CT σ (zset st 9 (σ 7 n) 1) T h6 := t4.fr (fun r r1 r2 => by rw [r6 r (by omega), e5, zset_n (by omega)])
      have wt9 : WT σ (zset st 9 (σ 7 n) 1) := by
        refine ⟨fun i i1 i2 => ?_, fun c c1 c2 => ?_, fun i i1 i2 => ?_⟩
        · refine ⟨?_, fun j j1 j2 j3 => ?_⟩
          · rw [zset_o (by decide)]; exact (wt.1 i i1 i2).1
          · rw [zset_o (by decide), zset_o (by decide)] at j3
            rw [zset_o (by decide)]; exact (wt.1 i i1 i2).2 j j1 j2 j3
        · have := wt.2.1 c c1 c2
          rw [zset_o (by decide), zset_o (by decide), zset_o (by decide), zset_g]
          refine ⟨this.1, this.2.1, this.2.2.1, this.2.2.2.1, this.2.2.2.2.1, fun z => ?_⟩
          split
          · exact Or.inr rfl
          · exact this.2.2.2.2.2 z
        · rw [zset_g]
          split
          · exact Or.inr rfl
          · exact wt.2.2 i i1 i2
      have hf9 : sAt σ (zset st 9 (σ 7 n) 1) n = -1 := by rw [sAt_5 (by decide) hS0]; exact hf
      have M : ∀ q, ¬ (q = 3 ∨ q = 4 ∨ q = 10) → h6 m q = h m q := fun q hq => by rw [m6 q (by omega), m5 q (by omega), m8 q (by omega)]
      obtain ⟨h7, u1, u2, u3, u4, u5, u6, u7, u8⟩ := q_comeInto (d := d) w t6 wt9 hm ((M 12 (by decide)).trans eT) ((M 14 (by decide)).trans es) hs (by rw [zset_o (by decide)]; exact hl) hn hf9 (hp.cg (M 13 (by decide)) (M 1 (by decide)))
      refine zWp_qv u1 (zWp_s ⟨rfl, u2, fun z => absurd rfl z, fun r hr => ?_, fun q hq => ?_, ?_⟩)
      · rw [u3 r (by omega), r6 r (by omega), r5 r (by omega), r8 r (by omega)]
      · rw [u4 q (by omega), M q (by omega)]
      · have N : ∀ q, ¬ (q = 3 ∨ q = 4 ∨ q = 10 ∨ q = 1 ∨ q = 8 ∨ q = 16) → h7 m q = h m q := fun q hq => by rw [u4 q (by omega), M q (by omega)]
        refine MV.snoc mv (s, pay, (3, n, sp, σ 16 (σ 7 n), k)) (N 2 (by decide)) ?_ ?_ ?_ ?_ (fun z => absurd (show (2 : Int) ≤ 3 by decide) z) (fun _ => ?_) (show 0 ≤ n ∧ n < 60 by omega) ?_ ?_
        · show h7 m 3 = w32 (h m 3 + 1); rw [u4 3 (by decide), m6 3 (by decide), f3]
        · show h7 m 4 = w32 (h m 4 + σ 16 (σ 7 n)); rw [u4 4 (by decide), f4]
        · show h7 m 5 = w32 (h m 5 + 0); rw [N 5 (by decide), Int.add_zero, hmi 5 (by decide) (by decide)]
        · show h7 m 6 = w32 (h m 6 + 0); rw [N 6 (by decide), Int.add_zero, hmi 6 (by decide) (by decide)]
        · rw [u6, M 8 (by decide)]
        · rw [show (if 2 ≤ ((3 : Int), n, sp, σ 16 (σ 7 n), k).1 then fst1 h m P n else P) = fst1 h m P n from if_pos (show (2 : Int) ≤ 3 by decide)]
          have p6 : h6 (m + 1) = h (m + 1) := by rw [r6 _ (by omega), r5 _ (by omega), r8 _ (by omega)]
          exact pth mv.2.2.2.2.2.2.1 (fun z => by rw [← M 1 (by decide), ← p6]; exact u7 (by rw [M 13 (by decide)]; exact z)) (fun z => by rw [← M 1 (by decide), ← p6]; exact u8 (by rw [M 13 (by decide)]; exact z))
        · have c2 : h7 (m + 2) = h8 (m + 2) := by rw [u3 _ (by omega), r6 _ (by omega), r5 _ (by omega)]
          have c10 : h7 m 10 = h8 m 10 := by rw [u4 10 (by decide), m6 10 (by decide), m5 10 (by decide)]
          rw [ep] at cn
          rw [ep, es, esp, ek] at cy
          exact MV.cl mv (e := (s, pay, (3, n, sp, σ 16 (σ 7 n), k))) (fun z => by rw [c2, c10]; exact cy ⟨fun y => z (Or.inl y), fun y => z (Or.inr (Or.inl y)), fun y => z (Or.inr (Or.inr y))⟩) (fun z => by rw [c2, c10]; exact cn z) (Or.inr rfl)
    · -- nothing there
      have eB : stepB σ st s n sp k = (come st s n, (4, n, sp, 0, k), contS (come st s n) n sp) := by
        unfold stepB; rw [if_neg q5, if_neg hw]
      rw [eB]
      have key : zWp (l_Mover_goesOnFrom_207 (d + 1) m n h) (fun v h' => v = .inl (if contS (come st s n) n sp = 0 then 0 else 1) ∧ CT σ (come st s n) T h' ∧ (contS (come st s n) n sp ≠ 0 → h' m 15 = contS (come st s n) n sp ∧ h' m 16 = w32 (k + 1)) ∧ (∀ r, ¬ (T ≤ r ∧ r < T + 8 ∨ m ≤ r ∧ r < m + 3) → h' r = h r) ∧ (∀ q, q = 7 ∨ q = 11 ∨ q = 12 ∨ q = 13 ∨ q = 14 ∨ q = 17 → h' m q = h m q) ∧ MV σ (E ++ [(s, pay, ((4 : Int), n, sp, (0 : Int), k))]) R (if 2 ≤ ((4 : Int), n, sp, (0 : Int), k).1 then fst1 h m P n else P) m h') := by
        refine zWp_m (q_goes207 (d := d) w t wt hm eT es esp (by omega) hs hl hn hf hp) ?_
        rintro v h' ⟨k1, k2, k3, k4, k5, k6, k7, k8, k9⟩
        refine ⟨k1, k2, fun z => ⟨k3 z, by rw [k6, ek]⟩, fun r hr => k4 r (by omega), fun q hq => k5 q (by omega), ?_⟩
        refine MV.snoc mv (s, pay, (4, n, sp, 0, k)) (k5 2 (by decide)) ?_ ?_ ?_ ?_ (fun z => absurd (show (2 : Int) ≤ 4 by decide) z) (fun _ => k7) (show 0 ≤ n ∧ n < 60 by omega) ?_ ?_
        · show h' m 3 = w32 (h m 3 + 0); rw [k5 3 (by decide), Int.add_zero, hmi 3 (by decide) (by decide)]
        · show h' m 4 = w32 (h m 4 + 0); rw [k5 4 (by decide), Int.add_zero, hmi 4 (by decide) (by decide)]
        · show h' m 5 = w32 (h m 5 + 0); rw [k5 5 (by decide), Int.add_zero, hmi 5 (by decide) (by decide)]
        · show h' m 6 = w32 (h m 6 + 0); rw [k5 6 (by decide), Int.add_zero, hmi 6 (by decide) (by decide)]
        · rw [show (if 2 ≤ ((4 : Int), n, sp, (0 : Int), k).1 then fst1 h m P n else P) = fst1 h m P n from if_pos (show (2 : Int) ≤ 4 by decide)]
          exact pth mv.2.2.2.2.2.2.1 k8 k9
        · exact MV.same mv (show ¬ ((4 : Int) = 2 ∨ (4 : Int) = 3) by decide) (k5 10 (by decide)) (k4 _ (by omega))
      refine zWp_if (fun q7 => key) (fun q7 => zWp_po (by omega) ?_)
      rw [eT]
      refine zWp_po (by omega) (zWp_qi (q_isRuin t (by omega)) ?_)
      rw [if_pos (Classical.byContradiction fun z => hw ⟨q7, z⟩)]
      exact zWp_nt (by decide) key
