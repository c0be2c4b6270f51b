/-! the slope that is not read stays -/
theorem CI.sp {σ st : zH} {D : zDR} {K : zKp} {Λ : zLw} {G G' h h' : zH} (c : CI σ st D K Λ G h) (cg : CG G' h') (h7 : h' 0 7 = h 0 7) (h8 : h' 0 8 = h 0 8) (hr : ∀ r, crC r → ¬ (h 0 8 ≤ r ∧ r ≤ h 0 8 + 25) → h' r = h r) (h12 : ∀ i, 0 ≤ i → i < 3 → h' (h 0 8 + 12) i = h 0 8 + 9 + i) : CI σ st D K Λ G' h' := by
  obtain ⟨c1, c2, c3, c4, c5, c6, c7, c8⟩ := c
  have ha := c1.2.1.1
  have hr2 : ∀ r, 11 ≤ r → r < 75 → ¬ (h 0 8 ≤ r ∧ r ≤ h 0 8 + 25) → h' r = h r := fun r r1 r2 => hr r (Or.inr (Or.inl ⟨r1, r2⟩))
  have hr3 : ∀ r, 83 ≤ r → r < 328 → h' r = h r := fun r r1 r2 => hr r (Or.inr (Or.inr (Or.inl ⟨r1, r2⟩))) (by omega)
  refine ⟨⟨rfl, ?_, ?_, c1.2.2.2⟩, by rw [h7, h8]; exact c2, cg, ?_, c5.fr (by rw [hr2 67 (by decide) (by decide) (by omega)]) (hr3 327 (by decide) (by decide)), c6.fr (fun r z => hr r (by unfold crC; omega) (by omega)), c7.fr (hr 331 (by unfold crC; decide) (by omega)), ?_⟩
  · rw [h7]; exact c1.2.1.fr (fun r r1 r2 => hr2 r (by omega) (by omega) (by omega))
  · exact c1.2.2.1.fr (fun r r1 r2 => hr2 r (by omega) (by omega) (by omega))
  · obtain ⟨k1, k2, k3, k4, k5⟩ := c4
    refine ⟨fun i i1 i2 => by rw [hr3 83 (by decide) (by decide)]; exact k1 i i1 i2, fun i i1 i2 => by rw [hr3 85 (by decide) (by decide)]; exact k2 i i1 i2, fun i i1 i2 => by rw [hr 347 (by unfold crC; decide) (by omega)]; exact k3 i i1 i2, fun i i1 i2 => ?_, fun i hi => by rw [hr 6 (by unfold crC; decide) (by omega)]; exact k5 i hi⟩
    have q := k4 i i1 i2
    have s := h12 i i1 i2
    rcases ha with e | e
    · have e8 : h 0 8 = 39 := by omega
      rw [e8] at s
      refine ⟨by rw [hr2 23 (by decide) (by decide) (by omega)]; exact q.1, ?_⟩
      have s' : h' 51 i = 39 + 9 + i := s
      omega
    · have e8 : h 0 8 = 11 := by omega
      rw [e8] at s
      refine ⟨?_, by rw [hr2 51 (by decide) (by decide) (by omega)]; exact q.2⟩
      have s' : h' 23 i = 11 + 9 + i := s
      omega
  · rw [h7]; exact c8.fr (fun r r1 r2 => hr2 r (by omega) (by omega) (by omega)) (fun q _ => by rw [hr2 (h 0 7 + 21) (by omega) (by omega) (by omega)])
theorem RI.sp {σ st : zH} {D : zDR} {K : zKp} {Λ : zLw} {G G' h h' : zH} (c : RI σ st D K Λ G h) (rg : RG G' h') (h0 : ∀ q, q = 12 ∨ q = 68 ∨ q = 69 → h' 403 q = h 403 q) (hr : ∀ r, 444 ≤ r → r ≤ 455 → h' r = h r) (hi : ∀ r i, 405 ≤ r → r ≤ 434 → ¬ (rsz r * (1 - h 403 12) ≤ i ∧ i < rsz r * (1 - h 403 12) + rsz r) → h' r i = h r i) : RI σ st D K Λ G' h' := by
  obtain ⟨c1, c2, c3, c4, c5, c6⟩ := c
  have hb := c1.1.1
  have e12 := h0 12 (Or.inl rfl)
  have g : ∀ r z i, 405 ≤ r → r ≤ 434 → rsz r = z → 0 < z → z * h 403 12 ≤ i → i < z * h 403 12 + z → h' r i = h r i := by
    intro r z i r1 r2 ez z0 i1 i2
    refine hi r i r1 r2 ?_
    rw [ez]
    rcases hb with e | e
    · rw [e] at i1 i2 ⊢
      rw [Int.mul_zero] at i1 i2
      rw [show (1 : Int) - 0 = 1 from rfl, Int.mul_one]
      omega
    · rw [e] at i1 i2 ⊢
      rw [Int.mul_one] at i1 i2
      rw [show (1 : Int) - 1 = 0 from rfl, Int.mul_zero]
      omega
  have wN := c1.2.2.1.1.2.2.2.2
  have wS := c1.2.2.1.2.1
  have one : ∀ r, 405 ≤ r → r ≤ 434 → rsz r = 1 → h' r (h 403 12) = h r (h 403 12) := fun r r1 r2 e => g r 1 _ r1 r2 e (by decide) (by omega) (by omega)
  refine ⟨⟨?_, c1.2.1.fr (fun r r1 r2 => hr r (by omega) (by omega)), c1.2.2⟩, rg, c3.fr (hr 451 (by decide) (by decide)) (hr 452 (by decide) (by decide)) (hr 453 (by decide) (by decide)), ?_, fun d => (c5 d).fl e12 (fun r i r1 r2 x => ?_), ?_⟩
  · obtain ⟨g1, ⟨g2, g3⟩, g4, ⟨k1, k2, k3, k4, k5, k6⟩, g5, g6, g7, g8⟩ := c1.1
    unfold RS
    rw [e12, hr 454 (by decide) (by decide), hr 455 (by decide) (by decide), one 405 (by decide) (by decide) rfl, one 406 (by decide) (by decide) rfl, one 413 (by decide) (by decide) rfl, one 415 (by decide) (by decide) rfl, one 420 (by decide) (by decide) rfl, one 424 (by decide) (by decide) rfl, one 427 (by decide) (by decide) rfl, one 429 (by decide) (by decide) rfl]
    refine ⟨g1, ⟨g2, g3⟩, fun c q1 q2 => ?_, ⟨k1, k2, k3, k4, k5, k6⟩, fun i q1 q2 => ?_, fun i q1 q2 => ?_, fun i q1 q2 => ?_, fun i q1 q2 => ?_⟩
    · rw [g 408 60 _ (by decide) (by decide) rfl (by decide) (by omega) (by omega), g 409 60 _ (by decide) (by decide) rfl (by decide) (by omega) (by omega), g 411 60 _ (by decide) (by decide) rfl (by decide) (by omega) (by omega), g 410 60 _ (by decide) (by decide) rfl (by decide) (by omega) (by omega)]
      exact g4 c q1 q2
    · rw [g 417 10 _ (by decide) (by decide) rfl (by decide) (by omega) (by omega), g 418 10 _ (by decide) (by decide) rfl (by decide) (by omega) (by omega), g 419 10 _ (by decide) (by decide) rfl (by decide) (by omega) (by omega)]
      exact g5 i q1 q2
    · rw [g 422 8 _ (by decide) (by decide) rfl (by decide) (by omega) (by omega), g 423 8 _ (by decide) (by decide) rfl (by decide) (by omega) (by omega)]
      exact g6 i q1 q2
    · rw [g 425 6 _ (by decide) (by decide) rfl (by decide) (by omega) (by omega), g 426 6 _ (by decide) (by decide) rfl (by decide) (by omega) (by omega)]
      exact g7 i q1 q2
    · rw [g 428 9 _ (by decide) (by decide) rfl (by decide) (by omega) (by omega)]
      exact g8 i q1 q2
  · unfold RRg at c4 ⊢
    rw [h0 69 (by decide), h0 68 (by decide)]
    refine ⟨c4.1, c4.2.1, fun j k hj => ?_⟩
    have q := c4.2.2 j k hj
    refine ⟨q.1.fr (fun r r1 r2 => hr r (by omega) (by omega)), ?_⟩
    have q2 := q.2
    unfold RDv at q2 ⊢
    rw [hr 451 (by decide) (by decide), hr 452 (by decide) (by decide), hr 453 (by decide) (by decide)]
    exact q2
  · rcases (show r = 429 ∨ (430 ≤ r ∧ r ≤ 432) ∨ (433 ≤ r ∧ r ≤ 434) by omega) with z | z | z
    · rw [z, x.1 z]
      exact one 429 (by decide) (by decide) rfl
    · have y := x.2.1 z.1 z.2
      have e : rsz r = 8 := by rcases (show r = 430 ∨ r = 431 ∨ r = 432 by omega) with v | v | v <;> rw [v] <;> rfl
      exact g r 8 i (by omega) r2 e (by decide) y.1 y.2
    · have y := x.2.2 z.1
      have e : rsz r = 1600 := by rcases (show r = 433 ∨ r = 434 by omega) with v | v <;> rw [v] <;> rfl
      exact g r 1600 i (by omega) r2 e (by decide) y.1 y.2
  · obtain ⟨n1, n2, n3⟩ := c6
    unfold RNm
    rw [e12]
    refine ⟨fun i q1 q2 => ?_, fun i q1 q2 => ?_, fun i q1 q2 => ?_⟩
    · rw [g 414 6 _ (by decide) (by decide) rfl (by decide) (by omega) (by omega)]; exact n1 i q1 q2
    · rw [g 416 10 _ (by decide) (by decide) rfl (by decide) (by omega) (by omega)]; exact n2 i q1 q2
    · rw [g 421 8 _ (by decide) (by decide) rfl (by decide) (by omega) (by omega)]; exact n3 i q1 q2
