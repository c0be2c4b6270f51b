/-! whence: a stone put into another cell -/
theorem mv_sAt {σ st : zH} {s n c : Int} (hS : 0 ≤ nS σ) : sAt σ (zset st 1 s n) c = sAt σ (come st s n) c := sAt_cg (fun i _ _ => by
  rw [come_1, zset_x]
  by_cases e : i = s
  · rw [if_pos ⟨rfl, e⟩, if_pos e]
  · rw [if_neg (fun z => e z.2), if_neg e]) c hS
theorem WT_mv {σ st : zH} (wt : WT σ st) {s n : Int} (hn : 0 ≤ n ∧ n < nC σ) (hf : ∀ i, 0 ≤ i → i < nS σ → st 1 i ≠ n) : WT σ (zset st 1 s n) := by
  have w2 := wt.come (s := s) hn hf
  have e1 : ∀ i, zset st 1 s n 1 i = come st s n 1 i := fun i => by
    rw [come_1, zset_x]
    by_cases e : i = s
    · rw [if_pos ⟨rfl, e⟩, if_pos e]
    · rw [if_neg (fun z => e z.2), if_neg e]
  refine ⟨fun i a b => ?_, fun c a b => ?_, fun i a b => ?_⟩
  · rw [e1]
    refine ⟨(w2.1 i a b).1, fun j j1 j2 j3 => ?_⟩
    rw [e1] at j3
    exact (w2.1 i a b).2 j j1 j2 j3
  · rw [zset_o (by decide), zset_o (by decide), zset_o (by decide), zset_o (by decide)]; exact wt.2.1 c a b
  · rw [zset_o (by decide)]; exact wt.2.2 i a b
theorem q_move {d : Nat} {σ st : zH} {T s n : Int} {h : zH} (w : WS σ) (t : CT σ st T h) (wt : WT σ st) (hs : 0 ≤ s ∧ s < nS σ) (hl : ¬ st 1 s = -1) (hn : 0 ≤ n ∧ n < nC σ) (hf : sAt σ st n = -1) : zWp (m_State_move (d + 1) T s n h) (fun _ h' => CT σ (zset st 1 s n) T h' ∧ frS T h h') := by
  have hT := t.1.low
  have hnn := w.n
  have hS0 : 0 ≤ nS σ := w.2.1.2.2.1
  have hS10 : nS σ ≤ 10 := w.2.1.2.2.2.1
  have hc := place_in wt hs hl
  have e1 : h (T + 1) s = st 1 s := t.pl (by omega)
  rw [em_State_move, e1]
  refine zWp_po (by omega) (zWp_po (by omega) (zWp_it (by omega) (zWp_nt (by omega) (zWp_it (by omega) (zWp_po (by omega) (zWp_po (by omega) (zWp_it (by omega) (zWp_lt fun h1 q1 => ?_))))))))
  rw [el_State_move_24]
  refine zWp_nt (by omega) (zWp_it (by omega) (zWp_po (by omega) (zWp_po (by omega) (zWp_it (by omega) (zWp_lt fun h2 q2 => zWp_po (by omega) (zWp_po (by omega) (zWp_it (by omega) (zWp_lt fun h3 q3 => zWp_s ?_))))))))
  have r3 : ∀ r, ¬ (r = T + 1 ∨ r = T + 4) → h3 r = h r := fun r hr => by rw [q3, zset_n (by omega), q2, zset_n (by omega), q1, zset_n (by omega)]
  obtain ⟨c0, c1, c2, c3, c4, c5, c6, c7⟩ := t
  refine ⟨⟨c0, fun i a b => ⟨?_, ?_, ?_⟩, fun i a b => ?_, fun i a b => ?_, fun i a b => ?_, ?_, ?_, ?_⟩, fun r hr => r3 r (by omega)⟩
  · rw [q3, zset_g, q2, zset_o (by omega), q1, zset_o (by omega), zset_g, (c1 i a b).1]
  · rw [r3 _ (by omega), zset_o (by decide)]; exact (c1 i a b).2.1
  · rw [r3 _ (by omega), zset_o (by decide)]; exact (c1 i a b).2.2
  · rw [q3, zset_o (by omega), q2, zset_g, q1, zset_g, mv_sAt hS0, sAt_come w wt hs hl hn.1 hf a, c2 i a b]
  · rw [r3 _ (by omega), r3 _ (by omega), zset_o (by decide), zset_o (by decide)]; exact c3 i a b
  · rw [r3 _ (by omega), zset_o (by decide)]; exact c4 i a b
  · rw [r3 _ (by omega)]
    obtain ⟨N, a1, a2, a3⟩ := c5
    exact ⟨N, a1, a2, fun i => by rw [zset_o (by decide)]; exact a3 i⟩
  · rw [r3 _ (by omega)]
    obtain ⟨N, a1, a2, a3⟩ := c6
    exact ⟨N, a1, a2, fun i => by rw [zset_o (by decide)]; exact a3 i⟩
  · rw [r3 _ (by omega), zset_o (by decide)]; exact c7
/-- walls and rolls -/
theorem stepB_5 {σ st : zH} (w : WS σ) (wt : WT σ st) {s n sp k : Int} (hs : 0 ≤ s ∧ s < nS σ) (hn : 0 ≤ n ∧ n < nC σ) (hsp : 1 ≤ sp ∧ sp ≤ 999) : (∀ x, (stepB σ st s n sp k).1 5 x ≤ st 5 x) ∧ (eMt (0, 0, (stepB σ st s n sp k).2.1) = 0 ∧ (stepB σ st s n sp k).1 5 = st 5 ∨ eMt (0, 0, (stepB σ st s n sp k).2.1) = 1 ∧ (stepB σ st s n sp k).1 5 n < st 5 n) := by
  have hW : 1 ≤ σ 13 s ∧ σ 13 s ≤ 999 := ⟨(w.2.2.2.2.1 s hs.1 hs.2).1, (w.2.2.2.2.1 s hs.1 hs.2).2.1⟩
  have hF := frc hsp hW
  have hE5 : 0 ≤ st 5 n := (wt.2.1 n hn.1 hn.2).1
  unfold stepB
  by_cases q5 : 0 < st 5 n
  · rw [if_pos q5]
    by_cases q6 : sp * σ 13 s ≤ st 5 n
    · rw [if_pos q6]
      refine ⟨fun x => ?_, Or.inr ⟨rfl, ?_⟩⟩
      · show zset st 5 n (st 5 n - sp * σ 13 s) 5 x ≤ st 5 x
        rw [zset_g]
        split
        · rename_i e; rw [e]; omega
        · omega
      · show zset st 5 n (st 5 n - sp * σ 13 s) 5 n < st 5 n
        rw [zset_e]; omega
    · rw [if_neg q6]
      refine ⟨fun x => ?_, Or.inr ⟨rfl, ?_⟩⟩
      · show come (zset st 5 n 0) s n 5 x ≤ st 5 x
        rw [come_o (by decide) (by decide), zset_g]
        split
        · rename_i e; rw [e]; omega
        · omega
      · show come (zset st 5 n 0) s n 5 n < st 5 n
        rw [come_o (by decide) (by decide), zset_e]; omega
  · rw [if_neg q5]
    by_cases hw : σ 7 n ≠ -1 ∧ st 9 (σ 7 n) ≠ 1
    · rw [if_pos hw]
      have e : come (zset st 9 (σ 7 n) 1) s n 5 = st 5 := by rw [come_k (by decide) (by decide), zset_n (by decide)]
      exact ⟨fun x => by show come (zset st 9 (σ 7 n) 1) s n 5 x ≤ _; rw [e]; omega, Or.inl ⟨rfl, e⟩⟩
    · rw [if_neg hw]
      have e : come st s n 5 = st 5 := come_k (by decide) (by decide)
      exact ⟨fun x => by show come st s n 5 x ≤ _; rw [e]; omega, Or.inl ⟨rfl, e⟩⟩
theorem evs_mt {s y s' y' : Int} : ∀ rs : List zRec, esum eMt (evs s y rs) = esum eMt (evs s' y' rs)
  | [] => rfl
  | r :: rs => by
    show (if r.1 = 1 ∨ r.1 = 2 then (1 : Int) else 0) + esum eMt (evs s y rs) = (if r.1 = 1 ∨ r.1 = 2 then (1 : Int) else 0) + esum eMt (evs s' y' rs)
    rw [evs_mt rs]
theorem rollA_5 {σ : zH} (w : WS σ) {s : Int} (hs : 0 ≤ s ∧ s < nS σ) : ∀ (f : Nat) {st : zH} {c sp k : Int}, WT σ st → st 1 s = c → 0 ≤ c ∧ c < nC σ → 0 ≤ sp ∧ sp + σ 1 c ≤ 999 → (∀ x, (rollA σ f st s c sp k).1 5 x ≤ st 5 x) ∧ (esum eMt (evs 0 0 (rollA σ f st s c sp k).2.1) = 0 → (rollA σ f st s c sp k).1 5 = st 5) ∧ (¬ esum eMt (evs 0 0 (rollA σ f st s c sp k).2.1) = 0 → ∃ x, (0 ≤ x ∧ x < nC σ) ∧ (rollA σ f st s c sp k).1 5 x < st 5 x)
  | 0, st, c, sp, k, wt, hc, hcc, hsp => ⟨fun _ => Int.le_refl _, fun _ => rfl, fun z => absurd rfl z⟩
  | f + 1, st, c, sp, k, wt, hc, hcc, hsp => by
    have hC := w.2.2.1 c hcc.1 hcc.2
    by_cases h1 : σ 2 c = -1
    · rw [rollA_no h1]
      exact ⟨fun _ => Int.le_refl _, fun _ => rfl, fun z => absurd rfl z⟩
    have hN : (0 ≤ σ 2 c ∧ σ 2 c < nC σ) ∧ σ 3 c = σ 1 c - σ 1 (σ 2 c) ∧ 1 ≤ σ 3 c := by
      rcases hC.2.2 with z | z
      · exact absurd z.1 h1
      · exact ⟨⟨z.1, z.2.1⟩, z.2.2⟩
    have hN1 := (w.2.2.1 _ hN.1.1 hN.1.2).1
    have hsp1 : 1 ≤ sp + σ 3 c ∧ sp + σ 3 c ≤ 999 := by omega
    clear hC
    by_cases h2 : sAt σ st (σ 2 c) = -1
    · obtain ⟨b1, b2, b3, b4, b5, b6, b7⟩ := stepB_ok (k := k) w wt hs hN.1 h2 hsp1
      obtain ⟨s1, s2⟩ := stepB_5 (k := k) w wt hs hN.1 hsp1
      by_cases h3 : (stepB σ st s (σ 2 c) (sp + σ 3 c) k).2.2 = 0
      · rw [rollA_end h1 h2 h3]
        have e : esum eMt (evs 0 0 [(stepB σ st s (σ 2 c) (sp + σ 3 c) k).2.1]) = eMt (0, 0, (stepB σ st s (σ 2 c) (sp + σ 3 c) k).2.1) := esum_1 _ _
        refine ⟨s1, fun z => ?_, fun z => ?_⟩
        · rw [show evs 0 0 ((stepB σ st s (σ 2 c) (sp + σ 3 c) k).1, [(stepB σ st s (σ 2 c) (sp + σ 3 c) k).2.1], (-1 : Int), (0 : Int)).2.1 = evs 0 0 [(stepB σ st s (σ 2 c) (sp + σ 3 c) k).2.1] from rfl, e] at z
          rcases s2 with q | q
          · exact q.2
          · omega
        · rw [show evs 0 0 ((stepB σ st s (σ 2 c) (sp + σ 3 c) k).1, [(stepB σ st s (σ 2 c) (sp + σ 3 c) k).2.1], (-1 : Int), (0 : Int)).2.1 = evs 0 0 [(stepB σ st s (σ 2 c) (sp + σ 3 c) k).2.1] from rfl, e] at z
          rcases s2 with q | q
          · exact absurd q.1 z
          · exact ⟨_, hN.1, q.2⟩
      · rw [rollA_go h1 h2 h3]
        have hb2 : 1 ≤ (stepB σ st s (σ 2 c) (sp + σ 3 c) k).2.2 ∧ (stepB σ st s (σ 2 c) (sp + σ 3 c) k).2.2 ≤ sp + σ 3 c ∧ 2 ≤ (stepB σ st s (σ 2 c) (sp + σ 3 c) k).2.1.1 := by
          rcases b2 with z | z
          · exact absurd z h3
          · exact z
        have hbn : (stepB σ st s (σ 2 c) (sp + σ 3 c) k).1 1 s = σ 2 c := by
          rcases b4 with z | z
          · omega
          · exact z.2.2
        obtain ⟨i1, i2, i3⟩ := rollA_5 w hs f (k := k + 1) b1 hbn hN.1 (show 0 ≤ (stepB σ st s (σ 2 c) (sp + σ 3 c) k).2.2 ∧ (stepB σ st s (σ 2 c) (sp + σ 3 c) k).2.2 + σ 1 (σ 2 c) ≤ 999 by omega)
        obtain ⟨q, eq⟩ : ∃ q, rollA σ f (stepB σ st s (σ 2 c) (sp + σ 3 c) k).1 s (σ 2 c) (stepB σ st s (σ 2 c) (sp + σ 3 c) k).2.2 (k + 1) = q := ⟨_, rfl⟩
        rw [eq] at i1 i2 i3 ⊢
        have hml := (mt_len (s := 0) (y := 0) q.2.1).1.1
        have e : esum eMt (evs 0 0 (zcons (stepB σ st s (σ 2 c) (sp + σ 3 c) k).2.1 q).2.1) = eMt (0, 0, (stepB σ st s (σ 2 c) (sp + σ 3 c) k).2.1) + esum eMt (evs 0 0 q.2.1) := rfl
        rw [e]
        refine ⟨fun x => Int.le_trans (i1 x) (s1 x), fun z => ?_, fun z => ?_⟩
        · rcases s2 with y | y
          · exact (i2 (by omega)).trans y.2
          · omega
        · rcases s2 with y | y
          · obtain ⟨x, x1, x2⟩ := i3 (by omega)
            exact ⟨x, x1, by rw [y.2] at x2; exact x2⟩
          · exact ⟨_, hN.1, Int.lt_of_le_of_lt (i1 _) y.2⟩
    · rw [rollA_bar h1 h2]
      exact ⟨fun _ => Int.le_refl _, fun _ => rfl, fun z => absurd rfl z⟩
