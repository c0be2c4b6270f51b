/-! copying of a state of the class -/
def frS (T : Int) (h h' : zH) : Prop := ∀ r, ¬ (T ≤ r ∧ r < T + 8) → h' r = h r
theorem q_copy {d : Nat} {T S : Int} {h : zH} (hT : SA T) (hS : SA S) (hne : ¬ T = S) : zWp (m_State_copy (d + 1) T S h) (fun _ h' => (∀ i, 0 ≤ i → i < 10 → h' (T + 1) i = h (S + 1) i ∧ h' (T + 2) i = h (S + 2) i ∧ h' (T + 3) i = h (S + 3) i) ∧ (∀ i, 0 ≤ i → i < 60 → h' (T + 4) i = h (S + 4) i ∧ h' (T + 5) i = h (S + 5) i ∧ h' (T + 6) i = h (S + 6) i) ∧ (∀ i, 0 ≤ i → i < 6 → h' (T + 7) i = h (S + 7) i) ∧ (h' T 7 = h S 7 ∧ h' T 8 = h S 8 ∧ h' T 9 = h S 9) ∧ frS T h h') := by
  have h1 := hT.low
  have h2 := hS.low
  have hap : S + 8 ≤ T ∨ T + 8 ≤ S := by
    rcases hT.apart hS with z | z | z
    · exact absurd z hne
    · exact Or.inr z
    · exact Or.inl z
  have p0 : 0 ≤ T := by omega
  have p1 : 0 ≤ T + 1 := by omega
  have p2 : 0 ≤ T + 2 := by omega
  have p3 : 0 ≤ T + 3 := by omega
  have p4 : 0 ≤ T + 4 := by omega
  have p5 : 0 ≤ T + 5 := by omega
  have p6 : 0 ≤ T + 6 := by omega
  have p7 : 0 ≤ T + 7 := by omega
  have s0 : 0 ≤ S := by omega
  have s1 : 0 ≤ S + 1 := by omega
  have s2 : 0 ≤ S + 2 := by omega
  have s3 : 0 ≤ S + 3 := by omega
  have s4 : 0 ≤ S + 4 := by omega
  have s5 : 0 ≤ S + 5 := by omega
  have s6 : 0 ≤ S + 6 := by omega
  have s7 : 0 ≤ S + 7 := by omega
  rw [em_State_copy]
  refine zWp_po s0 (zWp_po p0 (zWp_po s1 (zWp_po p1 (zWp_it (by decide) (zWp_lt fun g1 e1 => ?_)))))
  refine zWp_po s0 (zWp_po p0 (zWp_po s2 (zWp_po p2 (zWp_it (by decide) (zWp_lt fun g2 e2 => ?_)))))
  refine zWp_po s0 (zWp_po p0 (zWp_po s3 (zWp_po p3 (zWp_it (by decide) (zWp_lt fun g3 e3 => ?_)))))
  refine zWp_po s0 (zWp_po p0 (zWp_po s4 (zWp_po p4 (zWp_it (by decide) (zWp_lt fun g4 e4 => ?_)))))
  refine zWp_po s0 (zWp_po p0 (zWp_po s5 (zWp_po p5 (zWp_it (by decide) (zWp_lt fun g5 e5 => ?_)))))
  refine zWp_po s0 (zWp_po p0 (zWp_po s6 (zWp_po p6 (zWp_it (by decide) (zWp_lt fun g6 e6 => ?_)))))
  refine zWp_po s0 (zWp_po p0 (zWp_po s7 (zWp_po p7 (zWp_it (by decide) (zWp_lt fun g7 e7 => ?_)))))
  refine zWp_po s0 (zWp_po p0 (zWp_lt fun g8 e8 => zWp_po s0 (zWp_po p0 (zWp_lt fun g9 e9 => zWp_po s0 (zWp_po p0 (zWp_lt fun g10 e10 => zWp_s ?_))))))
  have cn : ∀ (a : zH) (x y z r : Int), ¬ r = x → zcpy a x 0 y 0 z r = a r := fun a x y z r hr => by unfold zcpy; rw [if_neg hr]
  have ci : ∀ (a : zH) (x y z i : Int), 0 ≤ i → i < z → zcpy a x 0 y 0 z x i = a y i := fun a x y z i i1 i2 => by rw [zcpy_i (by omega)]; congr 1; omega
  have q1 : ∀ r, ¬ r = T + 1 → g1 r = h r := fun r hr => by rw [e1, cn _ _ _ _ r hr]
  have q2 : ∀ r, ¬ r = T + 2 → g2 r = g1 r := fun r hr => by rw [e2, cn _ _ _ _ r hr]
  have q3 : ∀ r, ¬ r = T + 3 → g3 r = g2 r := fun r hr => by rw [e3, cn _ _ _ _ r hr]
  have q4 : ∀ r, ¬ r = T + 4 → g4 r = g3 r := fun r hr => by rw [e4, cn _ _ _ _ r hr]
  have q5 : ∀ r, ¬ r = T + 5 → g5 r = g4 r := fun r hr => by rw [e5, cn _ _ _ _ r hr]
  have q6 : ∀ r, ¬ r = T + 6 → g6 r = g5 r := fun r hr => by rw [e6, cn _ _ _ _ r hr]
  have q7 : ∀ r, ¬ r = T + 7 → g7 r = g6 r := fun r hr => by rw [e7, cn _ _ _ _ r hr]
  have q10 : ∀ r, ¬ r = T → g10 r = g7 r := fun r hr => by rw [e10, zset_n hr, e9, zset_n hr, e8, zset_n hr]
  clear cn
  refine ⟨fun i i1 i2 => ⟨?_, ?_, ?_⟩, fun i i1 i2 => ⟨?_, ?_, ?_⟩, fun i i1 i2 => ?_, ⟨?_, ?_, ?_⟩, fun r hr => ?_⟩
  · rw [q10 _ (by omega), q7 _ (by omega), q6 _ (by omega), q5 _ (by omega), q4 _ (by omega), q3 _ (by omega), q2 _ (by omega), e1, ci _ _ _ _ i i1 i2]
  · rw [q10 _ (by omega), q7 _ (by omega), q6 _ (by omega), q5 _ (by omega), q4 _ (by omega), q3 _ (by omega), e2, ci _ _ _ _ i i1 i2, q1 _ (by omega)]
  · rw [q10 _ (by omega), q7 _ (by omega), q6 _ (by omega), q5 _ (by omega), q4 _ (by omega), e3, ci _ _ _ _ i i1 i2, q2 _ (by omega), q1 _ (by omega)]
  · rw [q10 _ (by omega), q7 _ (by omega), q6 _ (by omega), q5 _ (by omega), e4, ci _ _ _ _ i i1 i2, q3 _ (by omega), q2 _ (by omega), q1 _ (by omega)]
  · rw [q10 _ (by omega), q7 _ (by omega), q6 _ (by omega), e5, ci _ _ _ _ i i1 i2, q4 _ (by omega), q3 _ (by omega), q2 _ (by omega), q1 _ (by omega)]
  · rw [q10 _ (by omega), q7 _ (by omega), e6, ci _ _ _ _ i i1 i2, q5 _ (by omega), q4 _ (by omega), q3 _ (by omega), q2 _ (by omega), q1 _ (by omega)]
  · rw [q10 _ (by omega), e7, ci _ _ _ _ i i1 i2, q6 _ (by omega), q5 _ (by omega), q4 _ (by omega), q3 _ (by omega), q2 _ (by omega), q1 _ (by omega)]
  · rw [e10, zset_j (by decide), e9, zset_j (by decide), e8, zset_e, q7 _ (by omega), q6 _ (by omega), q5 _ (by omega), q4 _ (by omega), q3 _ (by omega), q2 _ (by omega), q1 _ (by omega)]
  · rw [e10, zset_j (by decide), e9, zset_e, e8, zset_o (by omega), q7 _ (by omega), q6 _ (by omega), q5 _ (by omega), q4 _ (by omega), q3 _ (by omega), q2 _ (by omega), q1 _ (by omega)]
  · rw [e10, zset_e, e9, zset_o (by omega), e8, zset_o (by omega), q7 _ (by omega), q6 _ (by omega), q5 _ (by omega), q4 _ (by omega), q3 _ (by omega), q2 _ (by omega), q1 _ (by omega)]
  · rw [q10 _ (by omega), q7 _ (by omega), q6 _ (by omega), q5 _ (by omega), q4 _ (by omega), q3 _ (by omega), q2 _ (by omega), q1 _ (by omega)]
theorem q_copyT {d : Nat} {σ st : zH} {T S : Int} {h : zH} (w : WS σ) (hT : SA T) (hne : ¬ T = S) (t : CT σ st S h) : zWp (m_State_copy (d + 1) T S h) (fun _ h' => CT σ st T h' ∧ h' T 9 = h S 9 ∧ frS T h h') := by
  have hn := w.n
  refine zWp_m (q_copy hT t.1 hne) ?_
  rintro v h' ⟨a1, a2, a3, a4, a5⟩
  obtain ⟨c0, c1, c2, c3, c4, c5, c6, c7⟩ := t
  refine ⟨⟨hT, fun i i1 i2 => ?_, fun i i1 i2 => ?_, fun i i1 i2 => ?_, fun i i1 i2 => ?_, ?_, ?_, ?_⟩, a4.2.2, a5⟩
  · have := a1 i i1 i2
    rw [this.1, this.2.1, this.2.2]; exact c1 i i1 i2
  · rw [(a2 i i1 (by omega)).1]; exact c2 i i1 i2
  · have := a2 i i1 i2
    rw [this.2.1, this.2.2]; exact c3 i i1 i2
  · rw [a3 i i1 i2]; exact c4 i i1 i2
  · rw [a4.1]; exact c5
  · rw [a4.2.1]; exact c6
  · rw [a4.2.2]; exact c7
