/-! one roll of the class -/
theorem rollA_no {σ st : zH} {f : Nat} {s c sp m : Int} (h : σ 2 c = -1) : rollA σ (f + 1) st s c sp m = (st, [], -1, 0) := by unfold rollA; rw [if_pos h]
theorem rollA_bar {σ st : zH} {f : Nat} {s c sp m : Int} (h : ¬ σ 2 c = -1) (h2 : ¬ sAt σ st (σ 2 c) = -1) : rollA σ (f + 1) st s c sp m = (st, [(0, σ 2 c, sp + σ 3 c, sAt σ st (σ 2 c), m)], sAt σ st (σ 2 c), Int.tdiv ((sp + σ 3 c) * σ 13 s) (σ 13 (sAt σ st (σ 2 c)))) := by unfold rollA; rw [if_neg h, if_neg h2]
theorem rollA_end {σ st : zH} {f : Nat} {s c sp m : Int} (h : ¬ σ 2 c = -1) (h2 : sAt σ st (σ 2 c) = -1) (h3 : (stepB σ st s (σ 2 c) (sp + σ 3 c) m).2.2 = 0) : rollA σ (f + 1) st s c sp m = ((stepB σ st s (σ 2 c) (sp + σ 3 c) m).1, [(stepB σ st s (σ 2 c) (sp + σ 3 c) m).2.1], -1, 0) := by unfold rollA; rw [if_neg h, if_pos h2, if_pos h3]
theorem rollA_go {σ st : zH} {f : Nat} {s c sp m : Int} (h : ¬ σ 2 c = -1) (h2 : sAt σ st (σ 2 c) = -1) (h3 : ¬ (stepB σ st s (σ 2 c) (sp + σ 3 c) m).2.2 = 0) : rollA σ (f + 1) st s c sp m = zcons (stepB σ st s (σ 2 c) (sp + σ 3 c) m).2.1 (rollA σ f (stepB σ st s (σ 2 c) (sp + σ 3 c) m).1 s (σ 2 c) (stepB σ st s (σ 2 c) (sp + σ 3 c) m).2.2 (m + 1)) := by rw [rollA, if_neg h, if_pos h2, if_neg h3]
def evs (s pay : Int) (rs : List zRec) : List zEv := rs.map (fun r => (s, pay, r))
def cellsOf : List zRec → List Int
  | [] => []
  | r :: rs => if 2 ≤ r.1 then r.2.1 :: cellsOf rs else cellsOf rs
/-- the stone that starts by that -/
def pushed (σ : zH) (q : zRo) : Int := if q.2.2.1 ≠ -1 ∧ (q.1 1 q.2.2.1 ≠ -1 ∧ σ 2 (q.1 1 q.2.2.1) ≠ -1 ∧ σ 14 q.2.2.1 < q.2.2.2 + σ 3 (q.1 1 q.2.2.1)) then q.2.2.1 else -1
def RollPost (σ : zH) (q : zRo) (s pay : Int) (E : List zEv) (R : Int) (P : List Int) (a T m : Int) (h : zH) (v : zV) (h' : zH) : Prop :=
  v = .inl (pushed σ q) ∧ CS σ a h' ∧ CT σ q.1 T h' ∧ WT σ q.1 ∧ MV σ (E ++ evs s pay q.2.1) R (if h m 13 = 0 then P else P ++ cellsOf q.2.1) m h' ∧ h' m 7 = etop (evs s pay q.2.1) (h m 7) ∧ h' m 13 = 0 ∧ h' m 11 = a ∧ h' m 12 = T ∧ (∀ r, ¬ (T ≤ r ∧ r < T + 8 ∨ m ≤ r ∧ r < m + 3) → h' r = h r) ∧ ((ecl σ (E ++ evs s pay q.2.1)).length : Int) + rem σ q.1 ≤ 68
theorem q_rollEnd {d : Nat} {m s x2 x4 : Int} {h : zH} {Q : zV → zH → Prop} (hm : 0 ≤ m) (q : Q (.inl x2) (zset h m 13 0)) : zWp (l_Mover_rollOnce_65 d m s x2 0 x4 h) Q := by
  rw [el_Mover_rollOnce_65]
  refine zWp_if (fun _ => zWp_it rfl (zWp_po hm (zWp_lt fun h1 e1 => zWp_s ?_))) (fun _ => zWp_po hm (zWp_lt fun h1 e1 => zWp_s ?_))
  · rw [e1]; exact q
  · rw [e1]; exact q
theorem MV.f {σ : zH} {E : List zEv} {R : Int} {P : List Int} {m : Int} {h h' : zH} (v : MV σ E R P m h) (hk : ∀ k, ¬ (k = 7 ∨ 11 ≤ k) → h' m k = h m k) (h1 : h' (m + 1) = h (m + 1)) (h2 : h' (m + 2) = h (m + 2)) : MV σ E R P m h' := by
  unfold MV at v ⊢
  rw [hk 2 (by decide), hk 3 (by decide), hk 4 (by decide), hk 5 (by decide), hk 6 (by decide), hk 8 (by decide), hk 1 (by decide), hk 10 (by decide), h1, h2]
  exact v
def okL (h : zH) (m : Int) (P : List Int) (b : Int) : Prop := h m 13 = 0 ∨ (P.length : Int) ≤ b
theorem q_roll65 {σ : zH} (w : WS σ) {d : Nat} {m a T s pay R : Int} (hm : MA m) (hs : 0 ≤ s ∧ s < nS σ) : ∀ (f : Nat), f ≤ 60 → ∀ {st h : zH} {c sp k : Int} {E : List zEv} {P : List Int}, CS σ a h → CT σ st T h → WT σ st → h m 11 = a → h m 12 = T → h m 14 = s → h m 15 = sp → h m 16 = k → h m 17 = pay → st 1 s = c → 0 ≤ c ∧ c < nC σ → 0 ≤ sp ∧ sp + σ 1 c ≤ 999 → 0 ≤ k ∧ k ≤ 60 - f → okL h m P (60 - f) → MV σ E R P m h → ((ecl σ E).length : Int) + rem σ st ≤ 68 →
    zWp (l_Mover_rollOnce_65 (d + 2) m s (-1) 1 (60 - f) h) (RollPost σ (rollA σ f st s c sp k) s pay E R P a T m h)
  | 0, _, st, h, c, sp, k, E, P, g, t, wt, ea, eT, es, esp, ek, ep, hc, hcc, hsp, hk, hP, mv, hcl => by
    have hT := t.1.low
    have hap := hm.ap t.1
    have hml := hm.low
    have ha := g.a
    rw [el_Mover_rollOnce_65]
    refine zWp_nt (by omega) (zWp_po (by omega) (zWp_lt fun h1 e1 => zWp_s ?_))
    have m1 : ∀ k, ¬ k = 13 → h1 m k = h m k := fun k hk => by rw [e1, zset_j hk]
    have r1 : ∀ r, ¬ r = m → h1 r = h r := fun r hr => by rw [e1, zset_n hr]
    refine ⟨rfl, g.fr (fun r _ _ => r1 r (by omega)), t.fr (fun r _ _ => r1 r (by omega)), wt, ?_, m1 7 (by decide), by rw [e1, zset_e], (m1 11 (by decide)).trans ea, (m1 12 (by decide)).trans eT, fun r hr => r1 r (by omega), ?_⟩
    · rw [show E ++ evs s pay (rollA σ 0 st s c sp k).2.1 = E from List.append_nil E, show P ++ cellsOf (rollA σ 0 st s c sp k).2.1 = P from List.append_nil P, ite_self]
      exact mv.f (fun k hk => m1 k (by omega)) (r1 _ (by omega)) (r1 _ (by omega))
    · rw [show E ++ evs s pay (rollA σ 0 st s c sp k).2.1 = E from List.append_nil E]; exact hcl
  | f + 1, hf, st, h, c, sp, k, E, P, g, t, wt, ea, eT, es, esp, ek, ep, hc, hcc, hsp, hk, hP, mv, hcl => by
    have hT := t.1.low
    have hap := hm.ap t.1
    have hml := hm.low
    have ha := g.a
    have hnn := w.n
    have hS10 : nS σ ≤ 10 := w.2.1.2.2.2.1
    have hS0 : 0 ≤ nS σ := w.2.1.2.2.1
    have eP : h (T + 1) s = c := by rw [t.pl (by omega), hc]
    have hW : 1 ≤ σ 13 s ∧ σ 13 s ≤ 999 := ⟨(w.2.2.2.2.1 s hs.1 hs.2).1, (w.2.2.2.2.1 s hs.1 hs.2).2.1⟩
    rw [el_Mover_rollOnce_65]
    refine zWp_it (by omega) (zWp_nt (by decide) (zWp_po (by omega) (zWp_po (by omega) ?_)))
    rw [eT, ea, eP]
    refine zWp_po (by omega) (zWp_po (by omega) (zWp_it (by omega) (zWp_po (by omega) (zWp_qi (q_nextOf g w) ?_))))
    rw [if_pos hcc]
    have hC := w.2.2.1 c hcc.1 hcc.2
    by_cases q2 : σ 2 c = -1
    · -- no next cell
      rw [rollA_no q2]
      refine zWp_it q2 (zWp_po (by omega) (zWp_lt fun h1 e1 => zWp_s ?_))
      have m1 : ∀ k, ¬ k = 13 → h1 m k = h m k := fun k hk => by rw [e1, zset_j hk]
      have r1 : ∀ r, ¬ r = m → h1 r = h r := fun r hr => by rw [e1, zset_n hr]
      clear hC
      refine ⟨rfl, g.fr (fun r _ _ => r1 r (by omega)), t.fr (fun r _ _ => r1 r (by omega)), wt, ?_, m1 7 (by decide), by rw [e1, zset_e], (m1 11 (by decide)).trans ea, (m1 12 (by decide)).trans eT, fun r hr => r1 r (by omega), ?_⟩
      · show MV σ (E ++ []) R (if h m 13 = 0 then P else P ++ []) m h1
        rw [List.append_nil, List.append_nil, ite_self]
        exact mv.f (fun k hk => m1 k (by omega)) (r1 _ (by omega)) (r1 _ (by omega))
      · show ((ecl σ (E ++ [])).length : Int) + _ ≤ _
        rw [List.append_nil]; exact hcl
    · obtain ⟨n, en⟩ : ∃ n, σ 2 c = n := ⟨_, rfl⟩
      have hN : 0 ≤ n ∧ n < nC σ ∧ σ 3 c = σ 1 c - σ 1 n ∧ 1 ≤ σ 3 c := by
        rcases hC.2.2 with z | z
        · exact absurd z.1 q2
        · rw [en] at z; exact z
      have hN1 := (w.2.2.1 n hN.1 hN.2.1).1
      have hsp1 : 1 ≤ sp + σ 3 c ∧ sp + σ 3 c ≤ 999 := by omega
      have hspn : sp + σ 3 c + σ 1 n ≤ 999 := by omega
      have hF := frc hsp1 hW
      have e3 : h (a + 3) c = σ 3 c := g.g 3 (by decide)
      clear hC
      refine zWp_nt q2 ?_
      simp only [eT, ea, eP, esp, e3, en]
      repeat first | with_reducible refine zWp_po ?_ ?_; (· omega) | with_reducible refine zWp_it ?_ ?_; (· omega)
      refine zWp_lt fun h1 e1 => ?_
      rw [w32_i (by omega)] at e1
      have m1 : ∀ q, ¬ q = 15 → h1 m q = h m q := fun q hq => by rw [e1, zset_j hq]
      have r1 : ∀ r, ¬ r = m → h1 r = h r := fun r hr => by rw [e1, zset_n hr]
      have f15 : h1 m 15 = sp + σ 3 c := by rw [e1, zset_e]
      refine zWp_po (by omega) (zWp_po (by omega) (zWp_qi q_max (zWp_po (by omega) (zWp_lt fun h2 e2 => ?_))))
      rw [m1 7 (by decide), f15] at e2
      have m2 : ∀ q, ¬ q = 7 → h2 m q = h1 m q := fun q hq => by rw [e2, zset_j hq]
      have r2 : ∀ r, ¬ r = m → h2 r = h r := fun r hr => by rw [e2, zset_n hr, r1 r hr]
      have f7 : h2 m 7 = if h m 7 < sp + σ 3 c then sp + σ 3 c else h m 7 := by rw [e2, zset_e]
      have g2 : CS σ a h2 := g.fr (fun r _ _ => r2 r (by omega))
      have t2 : CT σ st T h2 := t.fr (fun r _ _ => r2 r (by omega))
      have M2 : ∀ q, ¬ (q = 7 ∨ q = 15) → h2 m q = h m q := fun q hq => by rw [m2 q (by omega), m1 q (by omega)]
      have f152 : h2 m 15 = sp + σ 3 c := by rw [m2 15 (by decide), f15]
      have ea2 : h2 m 11 = a := (M2 11 (by decide)).trans ea
      have eT2 : h2 m 12 = T := (M2 12 (by decide)).trans eT
      have e4 : h2 (T + 4) n = sAt σ st n := t2.at ⟨hN.1, hN.2.1⟩
      have mv2 : MV σ E R P m h2 := mv.f (fun q hq => M2 q (by omega)) (r2 _ (by omega)) (r2 _ (by omega))
      have e13 : h2 (a + 13) s = σ 13 s := g2.g 13 (by decide)
      simp only [ea2, eT2, e4, f152, e13]
      repeat first | with_reducible refine zWp_po ?_ ?_; (· omega) | with_reducible refine zWp_it ?_ ?_; (· omega)
      by_cases q4 : sAt σ st n = -1
      · refine zWp_it q4 ?_
        repeat first | with_reducible refine zWp_po ?_ ?_; (· omega) | with_reducible refine zWp_it ?_ ?_; (· omega)
        rw [w32_i (by omega)]
        have hB := stepB_ok (k := k) w wt hs ⟨hN.1, hN.2.1⟩ q4 hsp1
        obtain ⟨b1, b2, b3, b4, b5, b6, b7⟩ := hB
        have hq := q_goesOn (d := d) g2 w t2 wt hm ea2 eT2 ((M2 14 (by decide)).trans es) f152 ((M2 16 (by decide)).trans ek) ((M2 17 (by decide)).trans ep) hsp1 hs (by rw [hc]; omega) ⟨hN.1, hN.2.1⟩ q4 (by rcases hP with z | z; exact Or.inl ((M2 13 (by decide)).trans z); exact Or.inr ⟨by rw [mv2.2.2.2.2.2.2.1.1]; omega, by rw [mv2.2.2.2.2.2.2.1.1]; omega⟩) mv2 hcl
        obtain ⟨v, h9, ev, rfl, k2, k3, k4, k5, k6⟩ := hq
        refine zWp_qi ev ?_
        clear ev
        obtain ⟨b, eb⟩ : ∃ b, stepB σ st s n (sp + σ 3 c) k = b := ⟨_, rfl⟩
        rw [eb] at b1 b2 b3 b4 b5 b6 b7 k2 k3 k6 ⊢
        have g9 : CS σ a h9 := g2.fr (fun r _ _ => k4 r (by omega))
        have ePath : (if 2 ≤ b.2.1.1 then fst1 h2 m P n else P) = (if h m 13 = 0 then P else P ++ cellsOf [b.2.1]) := by
          unfold fst1
          rw [M2 13 (by decide)]
          show _ = (if h m 13 = 0 then P else P ++ (if 2 ≤ b.2.1.1 then b.2.1.2.1 :: [] else []))
          rw [b5.1]
          by_cases z1 : 2 ≤ b.2.1.1
          · rw [if_pos z1, if_pos z1]
          · rw [if_neg z1, if_neg z1, List.append_nil, ite_self]
        rw [ePath] at k6
        have eTop : h9 m 7 = etop [(s, pay, b.2.1)] (h m 7) := by
          rw [k5 7 (by decide), f7]
          show _ = (if h m 7 < b.2.1.2.2.1 then b.2.1.2.2.1 else h m 7)
          rw [b5.2.1]
        have hEc : ((ecl σ (E ++ [(s, pay, b.2.1)])).length : Int) + rem σ b.1 ≤ 68 := by
          have := ecl_len (σ := σ) (E := E) (e := (s, pay, b.2.1))
          have b6' : rem σ b.1 + (if eK (s, pay, b.2.1) = 2 ∨ eK (s, pay, b.2.1) = 3 then 1 else 0) ≤ rem σ st := b6
          omega
        by_cases b0 : b.2.2 = 0
        · rw [if_pos b0]
          rw [rollA_end q2 (by rw [en]; exact q4) (by rw [en, eb]; exact b0), en, eb]
          refine q_rollEnd (by omega) ?_
          have mz : ∀ q, ¬ q = 13 → zset h9 m 13 0 m q = h9 m q := fun q hq => zset_j hq
          have rz : ∀ r, ¬ r = m → zset h9 m 13 0 r = h9 r := fun r hr => zset_n hr
          refine ⟨?_, g9.fr (fun r _ _ => rz r (by omega)), k2.fr (fun r _ _ => rz r (by omega)), b1, k6.f (fun q hq => mz q (by omega)) (rz _ (by omega)) (rz _ (by omega)), (mz 7 (by decide)).trans eTop, zset_e, by rw [mz 11 (by decide), k5 11 (by decide), ea2], by rw [mz 12 (by decide), k5 12 (by decide), eT2], fun r hr => by rw [rz r (by omega), k4 r hr, r2 r (by omega)], hEc⟩
          unfold pushed
          rw [if_neg (fun z => z.1 rfl)]
        · rw [if_neg b0]
          have hb2 : 1 ≤ b.2.2 ∧ b.2.2 ≤ sp + σ 3 c ∧ 2 ≤ b.2.1.1 := by
            rcases b2 with z | z
            · exact absurd z b0
            · exact z
          have hbn : b.1 1 s = n := by
            rcases b4 with z | z
            · omega
            · exact z.2.2
          have hk3 := k3 b0
          rw [w32_i (by omega)] at hk3
          rw [show w32 (60 - ((f + 1 : Nat) : Int) + 1) = 60 - (f : Int) by rw [w32_i (by omega)]; omega]
          clear b2 b4 b6
          have hPl : okL h9 m (if h m 13 = 0 then P else P ++ cellsOf [b.2.1]) (60 - f) := by
            have e13 : h9 m 13 = h m 13 := by rw [k5 13 (by decide), M2 13 (by decide)]
            have hl1 : ((cellsOf [b.2.1]).length : Int) ≤ 1 := by
              show (((if 2 ≤ b.2.1.1 then b.2.1.2.1 :: [] else [] : List Int)).length : Int) ≤ 1
              split <;> simp
            rcases hP with z | z
            · exact Or.inl (e13.trans z)
            · refine Or.inr ?_
              split
              · omega
              · rw [List.length_append]; omega
          have ih := q_roll65 w (d := d) (R := R) hm hs f (by omega) g9 k2 b1 (by rw [k5 11 (by decide), ea2]) (by rw [k5 12 (by decide), eT2]) (by rw [k5 14 (by decide), M2 14 (by decide), es]) hk3.1 hk3.2 (by rw [k5 17 (by decide), M2 17 (by decide), ep]) hbn ⟨hN.1, hN.2.1⟩ (by omega) (by omega) hPl k6 hEc
          rw [rollA_go q2 (by rw [en]; exact q4) (by rw [en, eb]; exact b0), en, eb]
          refine zWp_m ih ?_
          rintro v h' ⟨u1, u2, u3, u4, u5, u6, u7, u8, u9, u10, u11⟩
          obtain ⟨q, eq⟩ : ∃ q, rollA σ f b.1 s n b.2.2 (k + 1) = q := ⟨_, rfl⟩
          rw [eq] at u1 u3 u4 u5 u6 u11 ⊢
          have e13 : h9 m 13 = h m 13 := by rw [k5 13 (by decide), M2 13 (by decide)]
          have eE : E ++ [(s, pay, b.2.1)] ++ evs s pay q.2.1 = E ++ evs s pay (zcons b.2.1 q).2.1 := by
            rw [List.append_assoc]; rfl
          have ePs : (if h9 m 13 = 0 then (if h m 13 = 0 then P else P ++ cellsOf [b.2.1]) else (if h m 13 = 0 then P else P ++ cellsOf [b.2.1]) ++ cellsOf q.2.1) = (if h m 13 = 0 then P else P ++ cellsOf (zcons b.2.1 q).2.1) := by
            rw [e13]
            by_cases z : h m 13 = 0
            · rw [if_pos z, if_pos z, if_pos z]
            · rw [if_neg z, if_neg z, if_neg z, List.append_assoc]
              show P ++ ((if 2 ≤ b.2.1.1 then b.2.1.2.1 :: [] else []) ++ cellsOf q.2.1) = P ++ (if 2 ≤ b.2.1.1 then b.2.1.2.1 :: cellsOf q.2.1 else cellsOf q.2.1)
              split <;> rfl
          rw [eE, ePs] at u5
          rw [eE] at u11
          refine ⟨u1, u2, u3, u4, u5, ?_, u7, u8, u9, fun r hr => by rw [u10 r hr, k4 r hr, r2 r (by omega)], u11⟩
          rw [u6, eTop]
          rfl
      · refine zWp_nt q4 ?_
        repeat first | with_reducible refine zWp_po ?_ ?_; (· omega) | with_reducible refine zWp_it ?_ ?_; (· omega)
        have hO := sAt_in hS0 q4
        obtain ⟨o, eo⟩ : ∃ o, sAt σ st n = o := ⟨_, rfl⟩
        rw [eo] at hO q4 ⊢
        have hWo : 1 ≤ σ 13 o ∧ σ 13 o ≤ 999 := ⟨(w.2.2.2.2.1 o hO.1 hO.2.1).1, (w.2.2.2.2.1 o hO.1 hO.2.1).2.1⟩
        have e13o : h2 (a + 13) o = σ 13 o := g2.g 13 (by decide)
        rw [e13o]
        repeat first | with_reducible refine zWp_po ?_ ?_; (· omega) | with_reducible refine zWp_it ?_ ?_; (· omega)
        have hp : 0 ≤ Int.tdiv ((sp + σ 3 c) * σ 13 s) (σ 13 o) ∧ Int.tdiv ((sp + σ 3 c) * σ 13 s) (σ 13 o) ≤ 998001 := by
          rw [Int.tdiv_eq_ediv_of_nonneg (by omega)]
          refine ⟨Int.ediv_nonneg (by omega) (by omega), ?_⟩
          have := Int.ediv_le_self (σ 13 o) (show 0 ≤ (sp + σ 3 c) * σ 13 s by omega)
          omega
        have hw32 : w32 ((sp + σ 3 c) * σ 13 s) = (sp + σ 3 c) * σ 13 s := w32_i (by omega)
        refine zWp_qi (v := Int.tdiv ((sp + σ 3 c) * σ 13 s) (σ 13 o)) (h := h2) (by rw [em_Mover_quotient, hw32, if_pos (by omega), zdz_t (by omega), w32_i (by omega)]) ?_
        rw [eT2, ea2]
        repeat first | with_reducible refine zWp_po ?_ ?_; (· omega) | with_reducible refine zWp_it ?_ ?_; (· omega)
        refine zWp_qi (q_starts g2 w t2 wt ⟨hO.1, hO.2.1⟩ ⟨hp.1, by omega⟩) ?_
        rw [rollA_bar q2 (by rw [en, eo]; exact q4), en, eo]
        have fin : ∀ x, x = pushed σ (st, [((0 : Int), n, sp + σ 3 c, o, k)], o, Int.tdiv ((sp + σ 3 c) * σ 13 s) (σ 13 o)) → RollPost σ (st, [((0 : Int), n, sp + σ 3 c, o, k)], o, Int.tdiv ((sp + σ 3 c) * σ 13 s) (σ 13 o)) s pay E R P a T m h (.inl x) (zset h2 m 13 0) := by
          intro x hx
          have mz : ∀ q, ¬ q = 13 → zset h2 m 13 0 m q = h2 m q := fun q hq => zset_j hq
          have rz : ∀ r, ¬ r = m → zset h2 m 13 0 r = h2 r := fun r hr => zset_n hr
          have N : ∀ q, ¬ (q = 13 ∨ q = 7 ∨ q = 15) → zset h2 m 13 0 m q = h m q := fun q hq => by rw [mz q (by omega), M2 q (by omega)]
          have hmi := mv.mi
          refine ⟨by rw [hx], g2.fr (fun r _ _ => rz r (by omega)), t2.fr (fun r _ _ => rz r (by omega)), wt, ?_, ?_, zset_e, (mz 11 (by decide)).trans ea2, (mz 12 (by decide)).trans eT2, fun r hr => by rw [rz r (by omega), r2 r (by omega)], ?_⟩
          · show MV σ (E ++ [(s, pay, ((0 : Int), n, sp + σ 3 c, o, k))]) R (if h m 13 = 0 then P else P ++ []) m _
            rw [List.append_nil, ite_self]
            refine MV.snoc mv (s, pay, (0, n, sp + σ 3 c, o, k)) (N 2 (by decide)) ?_ ?_ ?_ ?_ (fun _ => N 8 (by decide)) (fun z => absurd z (show ¬ (2 : Int) ≤ 0 by decide)) (show 0 ≤ n ∧ n < 60 by omega) ?_ ?_
            · show _ = w32 (h m 3 + 0); rw [N 3 (by decide), Int.add_zero, hmi 3 (by decide) (by decide)]
            · show _ = w32 (h m 4 + 0); rw [N 4 (by decide), Int.add_zero, hmi 4 (by decide) (by decide)]
            · show _ = w32 (h m 5 + 0); rw [N 5 (by decide), Int.add_zero, hmi 5 (by decide) (by decide)]
            · show _ = w32 (h m 6 + 0); rw [N 6 (by decide), Int.add_zero, hmi 6 (by decide) (by decide)]
            · rw [N 1 (by decide), rz _ (by omega), r2 _ (by omega)]; exact mv.2.2.2.2.2.2.1
            · exact MV.same mv (show ¬ ((0 : Int) = 2 ∨ (0 : Int) = 3) by decide) (N 10 (by decide)) (by rw [rz _ (by omega), r2 _ (by omega)])
          · rw [mz 7 (by decide), f7]; rfl
          · show ((ecl σ (E ++ [(s, pay, ((0 : Int), n, sp + σ 3 c, o, k))])).length : Int) + rem σ st ≤ 68
            have := ecl_len (σ := σ) (E := E) (e := (s, pay, ((0 : Int), n, sp + σ 3 c, o, k)))
            rw [if_neg (show ¬ ((0 : Int) = 2 ∨ (0 : Int) = 3) by decide)] at this
            omega
        by_cases z : st 1 o ≠ -1 ∧ σ 2 (st 1 o) ≠ -1 ∧ σ 14 o < Int.tdiv ((sp + σ 3 c) * σ 13 s) (σ 13 o) + σ 3 (st 1 o)
        · rw [if_pos z]
          refine zWp_nt (by decide) (q_rollEnd (by omega) (fin o ?_))
          unfold pushed
          rw [if_pos ⟨q4, z⟩]
        · rw [if_neg z]
          refine zWp_it rfl (q_rollEnd (by omega) (fin (-1) ?_))
          unfold pushed
          rw [if_neg (fun y => z y.2)]
