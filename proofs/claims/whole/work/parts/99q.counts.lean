/-! the reference writes behind what counts; then it counts it -/
theorem PR.w_o {σ h : zH} (p : PR σ h) {q v : Int} (hq : 414 ≤ q ∧ q ≤ 414) : PR σ (zset h q (6 * h 403 44 + nO σ) v) := by
  have e0 : zset h q (6 * h 403 44 + nO σ) v 403 44 = h 403 44 := zset_o (by omega)
  have er : ∀ r, r ≠ q → zset h q (6 * h 403 44 + nO σ) v r = h r := fun r hr => by rw [zset_n hr]
  have ei : ∀ r i, i < nO σ → zset h q (6 * h 403 44 + nO σ) v r (6 * h 403 44 + i) = h r (6 * h 403 44 + i) := fun r i hi => zset_2 (by omega)
  obtain ⟨p1, ⟨p2, p3, p4, p5⟩, p6, p7, p8, p9, p10, p11⟩ := p
  refine ⟨p1.fr e0 rfl (er _ (by omega)) (er _ (by omega)), ⟨p2.fr e0 rfl (er _ (by omega)), p3.fr e0 rfl (er _ (by omega)), p4.fr e0 rfl (er _ (by omega)), p5.fr e0 rfl (er _ (by omega))⟩, p6.fr e0 rfl (fun r hr => er r (by omega)), ?_, p8.fr e0 (fun _ _ => rfl) (fun r _ _ => er r (by omega)), p9.fr e0 (fun _ _ => rfl) (fun r _ _ => er r (by omega)), p10.fr e0 (fun _ _ => rfl) (er _ (by omega)) (er _ (by omega)), p11.fr e0 rfl (er _ (by omega))⟩
  intro i i0 i1
  have := p7 i i0 i1
  rw [e0, ei 414 i i1]
  exact this
theorem PR.n_o {σ σ' h : zH} (p : PR σ h) (ho : ∀ k, k ≠ 2 ∧ k ≠ 3 ∧ k ≠ 7 ∧ k ≠ 8 ∧ k ≠ 9 → σ' k = σ k) (h8 : ∀ j, j ≠ 4 → σ' 8 j = σ 8 j) (hc : σ' 8 4 = nO σ + 1) (hi : ∀ k i, (k = 9) → i ≠ nO σ → σ' k i = σ k i) (nw : NmR (σ' 9 (nO σ)) (h 414 (6 * h 403 44 + nO σ))) : PR σ' (zset h 413 (h 403 44) (nO σ + 1)) := by
  have e0 : zset h 413 (h 403 44) (nO σ + 1) 403 44 = h 403 44 := zset_o (by decide)
  have er : ∀ r, r ≠ 413 → zset h 413 (h 403 44) (nO σ + 1) r = h r := fun r hr => by rw [zset_n hr]
  obtain ⟨p1, ⟨p2, p3, p4, p5⟩, p6, p7, p8, p9, p10, p11⟩ := p
  have c8 : nS σ' = nS σ := h8 7 (by decide)
  have c9 : nHo σ' = nHo σ := h8 10 (by decide)
  have c10 : nT σ' = nT σ := h8 13 (by decide)
  have c11 : nRo σ' = nRo σ := h8 15 (by decide)
  have c7 : nO σ' = nO σ + 1 := hc
  refine ⟨p1.fr e0 (ho _ (by decide)) (er _ (by decide)) (er _ (by decide)), ⟨p2.fr e0 (ho _ (by decide)) (er _ (by decide)), p3.fr e0 (ho _ (by decide)) (er _ (by decide)), p4.fr e0 (ho _ (by decide)) (er _ (by decide)), p5.fr e0 (ho _ (by decide)) (er _ (by decide))⟩, ?_, ?_, (by rw [c8]; exact p8.fr e0 (fun k hk => ho k (by omega)) (fun r _ _ => er r (by omega))), (by rw [c9]; exact p9.fr e0 (fun k hk => ho k (by omega)) (fun r _ _ => er r (by omega))), (by rw [c10]; exact p10.fr e0 (fun k hk => ho k (by omega)) (er _ (by omega)) (er _ (by omega))), (by rw [c11]; exact p11.fr e0 (ho _ (by decide)) (er _ (by omega)))⟩
  · obtain ⟨k1, k2, k3, k4, k5, k6, k7, k8⟩ := p6
    unfold gK
    rw [e0]
    exact ⟨(by rw [er 407 (by decide)]; exact k1.trans (h8 1 (by decide)).symm), (by rw [er 412 (by decide)]; exact k2.trans (h8 12 (by decide)).symm), (by rw [zset_e]; exact hc.symm), (by rw [er 415 (by decide)]; exact k4.trans (h8 7 (by decide)).symm), (by rw [er 420 (by decide)]; exact k5.trans (h8 10 (by decide)).symm), (by rw [er 424 (by decide)]; exact k6.trans (h8 13 (by decide)).symm), (by rw [er 427 (by decide)]; exact k7.trans (h8 15 (by decide)).symm), (by rw [er 429 (by decide)]; exact k8.trans (h8 16 (by decide)).symm)⟩
  · intro i i0 i1
    rw [c7] at i1
    rw [e0, er 414 (by decide)]
    by_cases e : i = nO σ
    · rw [e]; exact nw
    · have := p7 i i0 (by omega)
      rw [hi 9 i (by decide) e]
      exact this
theorem PR.w_s {σ h : zH} (p : PR σ h) {q v : Int} (hq : 416 ≤ q ∧ q ≤ 419) : PR σ (zset h q (10 * h 403 44 + nS σ) v) := by
  have e0 : zset h q (10 * h 403 44 + nS σ) v 403 44 = h 403 44 := zset_o (by omega)
  have er : ∀ r, r ≠ q → zset h q (10 * h 403 44 + nS σ) v r = h r := fun r hr => by rw [zset_n hr]
  have ei : ∀ r i, i < nS σ → zset h q (10 * h 403 44 + nS σ) v r (10 * h 403 44 + i) = h r (10 * h 403 44 + i) := fun r i hi => zset_2 (by omega)
  obtain ⟨p1, ⟨p2, p3, p4, p5⟩, p6, p7, p8, p9, p10, p11⟩ := p
  refine ⟨p1.fr e0 rfl (er _ (by omega)) (er _ (by omega)), ⟨p2.fr e0 rfl (er _ (by omega)), p3.fr e0 rfl (er _ (by omega)), p4.fr e0 rfl (er _ (by omega)), p5.fr e0 rfl (er _ (by omega))⟩, p6.fr e0 rfl (fun r hr => er r (by omega)), p7.fr e0 rfl (er _ (by omega)), ?_, p9.fr e0 (fun _ _ => rfl) (fun r _ _ => er r (by omega)), p10.fr e0 (fun _ _ => rfl) (er _ (by omega)) (er _ (by omega)), p11.fr e0 rfl (er _ (by omega))⟩
  intro i i0 i1
  have := p8 i i0 i1
  rw [e0, ei 416 i i1, ei 417 i i1, ei 418 i i1, ei 419 i i1]
  exact this
theorem PR.n_s {σ σ' h : zH} (p : PR σ h) (ho : ∀ k, k ≠ 2 ∧ k ≠ 3 ∧ k ≠ 7 ∧ k ≠ 8 ∧ k ≠ 10 ∧ k ≠ 13 ∧ k ≠ 14 ∧ k ≠ 15 → σ' k = σ k) (h8 : ∀ j, j ≠ 7 → σ' 8 j = σ 8 j) (hc : σ' 8 7 = nS σ + 1) (hi : ∀ k i, (k = 10 ∨ k = 13 ∨ k = 14 ∨ k = 15) → i ≠ nS σ → σ' k i = σ k i) (nw : NmR (σ' 10 (nS σ)) (h 416 (10 * h 403 44 + nS σ)) ∧ h 417 (10 * h 403 44 + nS σ) = σ' 13 (nS σ) ∧ h 418 (10 * h 403 44 + nS σ) = σ' 14 (nS σ) ∧ h 419 (10 * h 403 44 + nS σ) = σ' 15 (nS σ)) : PR σ' (zset h 415 (h 403 44) (nS σ + 1)) := by
  have e0 : zset h 415 (h 403 44) (nS σ + 1) 403 44 = h 403 44 := zset_o (by decide)
  have er : ∀ r, r ≠ 415 → zset h 415 (h 403 44) (nS σ + 1) r = h r := fun r hr => by rw [zset_n hr]
  obtain ⟨p1, ⟨p2, p3, p4, p5⟩, p6, p7, p8, p9, p10, p11⟩ := p
  have c7 : nO σ' = nO σ := h8 4 (by decide)
  have c9 : nHo σ' = nHo σ := h8 10 (by decide)
  have c10 : nT σ' = nT σ := h8 13 (by decide)
  have c11 : nRo σ' = nRo σ := h8 15 (by decide)
  have c8 : nS σ' = nS σ + 1 := hc
  refine ⟨p1.fr e0 (ho _ (by decide)) (er _ (by decide)) (er _ (by decide)), ⟨p2.fr e0 (ho _ (by decide)) (er _ (by decide)), p3.fr e0 (ho _ (by decide)) (er _ (by decide)), p4.fr e0 (ho _ (by decide)) (er _ (by decide)), p5.fr e0 (ho _ (by decide)) (er _ (by decide))⟩, ?_, (by rw [c7]; exact p7.fr e0 (ho _ (by decide)) (er _ (by omega))), ?_, (by rw [c9]; exact p9.fr e0 (fun k hk => ho k (by omega)) (fun r _ _ => er r (by omega))), (by rw [c10]; exact p10.fr e0 (fun k hk => ho k (by omega)) (er _ (by omega)) (er _ (by omega))), (by rw [c11]; exact p11.fr e0 (ho _ (by decide)) (er _ (by omega)))⟩
  · obtain ⟨k1, k2, k3, k4, k5, k6, k7, k8⟩ := p6
    unfold gK
    rw [e0]
    exact ⟨(by rw [er 407 (by decide)]; exact k1.trans (h8 1 (by decide)).symm), (by rw [er 412 (by decide)]; exact k2.trans (h8 12 (by decide)).symm), (by rw [er 413 (by decide)]; exact k3.trans (h8 4 (by decide)).symm), (by rw [zset_e]; exact hc.symm), (by rw [er 420 (by decide)]; exact k5.trans (h8 10 (by decide)).symm), (by rw [er 424 (by decide)]; exact k6.trans (h8 13 (by decide)).symm), (by rw [er 427 (by decide)]; exact k7.trans (h8 15 (by decide)).symm), (by rw [er 429 (by decide)]; exact k8.trans (h8 16 (by decide)).symm)⟩
  · intro i i0 i1
    rw [c8] at i1
    rw [e0, er 416 (by decide), er 417 (by decide), er 418 (by decide), er 419 (by decide)]
    by_cases e : i = nS σ
    · rw [e]; exact nw
    · have := p8 i i0 (by omega)
      rw [hi 10 i (by decide) e, hi 13 i (by decide) e, hi 14 i (by decide) e, hi 15 i (by decide) e]
      exact this
theorem PR.w_h {σ h : zH} (p : PR σ h) {q v : Int} (hq : 421 ≤ q ∧ q ≤ 423) : PR σ (zset h q (8 * h 403 44 + nHo σ) v) := by
  have e0 : zset h q (8 * h 403 44 + nHo σ) v 403 44 = h 403 44 := zset_o (by omega)
  have er : ∀ r, r ≠ q → zset h q (8 * h 403 44 + nHo σ) v r = h r := fun r hr => by rw [zset_n hr]
  have ei : ∀ r i, i < nHo σ → zset h q (8 * h 403 44 + nHo σ) v r (8 * h 403 44 + i) = h r (8 * h 403 44 + i) := fun r i hi => zset_2 (by omega)
  obtain ⟨p1, ⟨p2, p3, p4, p5⟩, p6, p7, p8, p9, p10, p11⟩ := p
  refine ⟨p1.fr e0 rfl (er _ (by omega)) (er _ (by omega)), ⟨p2.fr e0 rfl (er _ (by omega)), p3.fr e0 rfl (er _ (by omega)), p4.fr e0 rfl (er _ (by omega)), p5.fr e0 rfl (er _ (by omega))⟩, p6.fr e0 rfl (fun r hr => er r (by omega)), p7.fr e0 rfl (er _ (by omega)), p8.fr e0 (fun _ _ => rfl) (fun r _ _ => er r (by omega)), ?_, p10.fr e0 (fun _ _ => rfl) (er _ (by omega)) (er _ (by omega)), p11.fr e0 rfl (er _ (by omega))⟩
  intro i i0 i1
  have := p9 i i0 i1
  rw [e0, ei 421 i i1, ei 422 i i1, ei 423 i i1]
  exact this
theorem PR.n_h {σ σ' h : zH} (p : PR σ h) (ho : ∀ k, k ≠ 2 ∧ k ≠ 3 ∧ k ≠ 7 ∧ k ≠ 8 ∧ k ≠ 11 ∧ k ≠ 16 ∧ k ≠ 17 → σ' k = σ k) (h8 : ∀ j, j ≠ 10 → σ' 8 j = σ 8 j) (hc : σ' 8 10 = nHo σ + 1) (hi : ∀ k i, (k = 11 ∨ k = 16 ∨ k = 17) → i ≠ nHo σ → σ' k i = σ k i) (nw : NmR (σ' 11 (nHo σ)) (h 421 (8 * h 403 44 + nHo σ)) ∧ h 422 (8 * h 403 44 + nHo σ) = σ' 16 (nHo σ) ∧ h 423 (8 * h 403 44 + nHo σ) = σ' 17 (nHo σ)) : PR σ' (zset h 420 (h 403 44) (nHo σ + 1)) := by
  have e0 : zset h 420 (h 403 44) (nHo σ + 1) 403 44 = h 403 44 := zset_o (by decide)
  have er : ∀ r, r ≠ 420 → zset h 420 (h 403 44) (nHo σ + 1) r = h r := fun r hr => by rw [zset_n hr]
  obtain ⟨p1, ⟨p2, p3, p4, p5⟩, p6, p7, p8, p9, p10, p11⟩ := p
  have c7 : nO σ' = nO σ := h8 4 (by decide)
  have c8 : nS σ' = nS σ := h8 7 (by decide)
  have c10 : nT σ' = nT σ := h8 13 (by decide)
  have c11 : nRo σ' = nRo σ := h8 15 (by decide)
  have c9 : nHo σ' = nHo σ + 1 := hc
  refine ⟨p1.fr e0 (ho _ (by decide)) (er _ (by decide)) (er _ (by decide)), ⟨p2.fr e0 (ho _ (by decide)) (er _ (by decide)), p3.fr e0 (ho _ (by decide)) (er _ (by decide)), p4.fr e0 (ho _ (by decide)) (er _ (by decide)), p5.fr e0 (ho _ (by decide)) (er _ (by decide))⟩, ?_, (by rw [c7]; exact p7.fr e0 (ho _ (by decide)) (er _ (by omega))), (by rw [c8]; exact p8.fr e0 (fun k hk => ho k (by omega)) (fun r _ _ => er r (by omega))), ?_, (by rw [c10]; exact p10.fr e0 (fun k hk => ho k (by omega)) (er _ (by omega)) (er _ (by omega))), (by rw [c11]; exact p11.fr e0 (ho _ (by decide)) (er _ (by omega)))⟩
  · obtain ⟨k1, k2, k3, k4, k5, k6, k7, k8⟩ := p6
    unfold gK
    rw [e0]
    exact ⟨(by rw [er 407 (by decide)]; exact k1.trans (h8 1 (by decide)).symm), (by rw [er 412 (by decide)]; exact k2.trans (h8 12 (by decide)).symm), (by rw [er 413 (by decide)]; exact k3.trans (h8 4 (by decide)).symm), (by rw [er 415 (by decide)]; exact k4.trans (h8 7 (by decide)).symm), (by rw [zset_e]; exact hc.symm), (by rw [er 424 (by decide)]; exact k6.trans (h8 13 (by decide)).symm), (by rw [er 427 (by decide)]; exact k7.trans (h8 15 (by decide)).symm), (by rw [er 429 (by decide)]; exact k8.trans (h8 16 (by decide)).symm)⟩
  · intro i i0 i1
    rw [c9] at i1
    rw [e0, er 421 (by decide), er 422 (by decide), er 423 (by decide)]
    by_cases e : i = nHo σ
    · rw [e]; exact nw
    · have := p9 i i0 (by omega)
      rw [hi 11 i (by decide) e, hi 16 i (by decide) e, hi 17 i (by decide) e]
      exact this
theorem PR.w_t {σ h : zH} (p : PR σ h) {q v : Int} (hq : 425 ≤ q ∧ q ≤ 426) : PR σ (zset h q (6 * h 403 44 + nT σ) v) := by
  have e0 : zset h q (6 * h 403 44 + nT σ) v 403 44 = h 403 44 := zset_o (by omega)
  have er : ∀ r, r ≠ q → zset h q (6 * h 403 44 + nT σ) v r = h r := fun r hr => by rw [zset_n hr]
  have ei : ∀ r i, i < nT σ → zset h q (6 * h 403 44 + nT σ) v r (6 * h 403 44 + i) = h r (6 * h 403 44 + i) := fun r i hi => zset_2 (by omega)
  obtain ⟨p1, ⟨p2, p3, p4, p5⟩, p6, p7, p8, p9, p10, p11⟩ := p
  refine ⟨p1.fr e0 rfl (er _ (by omega)) (er _ (by omega)), ⟨p2.fr e0 rfl (er _ (by omega)), p3.fr e0 rfl (er _ (by omega)), p4.fr e0 rfl (er _ (by omega)), p5.fr e0 rfl (er _ (by omega))⟩, p6.fr e0 rfl (fun r hr => er r (by omega)), p7.fr e0 rfl (er _ (by omega)), p8.fr e0 (fun _ _ => rfl) (fun r _ _ => er r (by omega)), p9.fr e0 (fun _ _ => rfl) (fun r _ _ => er r (by omega)), ?_, p11.fr e0 rfl (er _ (by omega))⟩
  intro i i0 i1
  have := p10 i i0 i1
  rw [e0, ei 425 i i1, ei 426 i i1]
  exact this
theorem PR.n_t {σ σ' h : zH} (p : PR σ h) (ho : ∀ k, k ≠ 2 ∧ k ≠ 3 ∧ k ≠ 7 ∧ k ≠ 8 ∧ k ≠ 18 ∧ k ≠ 19 → σ' k = σ k) (h8 : ∀ j, j ≠ 13 → σ' 8 j = σ 8 j) (hc : σ' 8 13 = nT σ + 1) (hi : ∀ k i, (k = 18 ∨ k = 19) → i ≠ nT σ → σ' k i = σ k i) (nw : h 425 (6 * h 403 44 + nT σ) = σ' 18 (nT σ) ∧ h 426 (6 * h 403 44 + nT σ) = σ' 19 (nT σ)) : PR σ' (zset h 424 (h 403 44) (nT σ + 1)) := by
  have e0 : zset h 424 (h 403 44) (nT σ + 1) 403 44 = h 403 44 := zset_o (by decide)
  have er : ∀ r, r ≠ 424 → zset h 424 (h 403 44) (nT σ + 1) r = h r := fun r hr => by rw [zset_n hr]
  obtain ⟨p1, ⟨p2, p3, p4, p5⟩, p6, p7, p8, p9, p10, p11⟩ := p
  have c7 : nO σ' = nO σ := h8 4 (by decide)
  have c8 : nS σ' = nS σ := h8 7 (by decide)
  have c9 : nHo σ' = nHo σ := h8 10 (by decide)
  have c11 : nRo σ' = nRo σ := h8 15 (by decide)
  have c10 : nT σ' = nT σ + 1 := hc
  refine ⟨p1.fr e0 (ho _ (by decide)) (er _ (by decide)) (er _ (by decide)), ⟨p2.fr e0 (ho _ (by decide)) (er _ (by decide)), p3.fr e0 (ho _ (by decide)) (er _ (by decide)), p4.fr e0 (ho _ (by decide)) (er _ (by decide)), p5.fr e0 (ho _ (by decide)) (er _ (by decide))⟩, ?_, (by rw [c7]; exact p7.fr e0 (ho _ (by decide)) (er _ (by omega))), (by rw [c8]; exact p8.fr e0 (fun k hk => ho k (by omega)) (fun r _ _ => er r (by omega))), (by rw [c9]; exact p9.fr e0 (fun k hk => ho k (by omega)) (fun r _ _ => er r (by omega))), ?_, (by rw [c11]; exact p11.fr e0 (ho _ (by decide)) (er _ (by omega)))⟩
  · obtain ⟨k1, k2, k3, k4, k5, k6, k7, k8⟩ := p6
    unfold gK
    rw [e0]
    exact ⟨(by rw [er 407 (by decide)]; exact k1.trans (h8 1 (by decide)).symm), (by rw [er 412 (by decide)]; exact k2.trans (h8 12 (by decide)).symm), (by rw [er 413 (by decide)]; exact k3.trans (h8 4 (by decide)).symm), (by rw [er 415 (by decide)]; exact k4.trans (h8 7 (by decide)).symm), (by rw [er 420 (by decide)]; exact k5.trans (h8 10 (by decide)).symm), (by rw [zset_e]; exact hc.symm), (by rw [er 427 (by decide)]; exact k7.trans (h8 15 (by decide)).symm), (by rw [er 429 (by decide)]; exact k8.trans (h8 16 (by decide)).symm)⟩
  · intro i i0 i1
    rw [c10] at i1
    rw [e0, er 425 (by decide), er 426 (by decide)]
    by_cases e : i = nT σ
    · rw [e]; exact nw
    · have := p10 i i0 (by omega)
      rw [hi 18 i (by decide) e, hi 19 i (by decide) e]
      exact this
theorem PR.w_r {σ h : zH} (p : PR σ h) {q v : Int} (hq : 428 ≤ q ∧ q ≤ 428) : PR σ (zset h q (9 * h 403 44 + nRo σ) v) := by
  have e0 : zset h q (9 * h 403 44 + nRo σ) v 403 44 = h 403 44 := zset_o (by omega)
  have er : ∀ r, r ≠ q → zset h q (9 * h 403 44 + nRo σ) v r = h r := fun r hr => by rw [zset_n hr]
  have ei : ∀ r i, i < nRo σ → zset h q (9 * h 403 44 + nRo σ) v r (9 * h 403 44 + i) = h r (9 * h 403 44 + i) := fun r i hi => zset_2 (by omega)
  obtain ⟨p1, ⟨p2, p3, p4, p5⟩, p6, p7, p8, p9, p10, p11⟩ := p
  refine ⟨p1.fr e0 rfl (er _ (by omega)) (er _ (by omega)), ⟨p2.fr e0 rfl (er _ (by omega)), p3.fr e0 rfl (er _ (by omega)), p4.fr e0 rfl (er _ (by omega)), p5.fr e0 rfl (er _ (by omega))⟩, p6.fr e0 rfl (fun r hr => er r (by omega)), p7.fr e0 rfl (er _ (by omega)), p8.fr e0 (fun _ _ => rfl) (fun r _ _ => er r (by omega)), p9.fr e0 (fun _ _ => rfl) (fun r _ _ => er r (by omega)), p10.fr e0 (fun _ _ => rfl) (er _ (by omega)) (er _ (by omega)), ?_⟩
  intro i i0 i1
  have := p11 i i0 i1
  rw [e0, ei 428 i i1]
  exact this
theorem PR.n_r {σ σ' h : zH} (p : PR σ h) (ho : ∀ k, k ≠ 2 ∧ k ≠ 3 ∧ k ≠ 7 ∧ k ≠ 8 ∧ k ≠ 20 → σ' k = σ k) (h8 : ∀ j, j ≠ 15 → σ' 8 j = σ 8 j) (hc : σ' 8 15 = nRo σ + 1) (hi : ∀ k i, (k = 20) → i ≠ nRo σ → σ' k i = σ k i) (nw : h 428 (9 * h 403 44 + nRo σ) = σ' 20 (nRo σ)) : PR σ' (zset h 427 (h 403 44) (nRo σ + 1)) := by
  have e0 : zset h 427 (h 403 44) (nRo σ + 1) 403 44 = h 403 44 := zset_o (by decide)
  have er : ∀ r, r ≠ 427 → zset h 427 (h 403 44) (nRo σ + 1) r = h r := fun r hr => by rw [zset_n hr]
  obtain ⟨p1, ⟨p2, p3, p4, p5⟩, p6, p7, p8, p9, p10, p11⟩ := p
  have c7 : nO σ' = nO σ := h8 4 (by decide)
  have c8 : nS σ' = nS σ := h8 7 (by decide)
  have c9 : nHo σ' = nHo σ := h8 10 (by decide)
  have c10 : nT σ' = nT σ := h8 13 (by decide)
  have c11 : nRo σ' = nRo σ + 1 := hc
  refine ⟨p1.fr e0 (ho _ (by decide)) (er _ (by decide)) (er _ (by decide)), ⟨p2.fr e0 (ho _ (by decide)) (er _ (by decide)), p3.fr e0 (ho _ (by decide)) (er _ (by decide)), p4.fr e0 (ho _ (by decide)) (er _ (by decide)), p5.fr e0 (ho _ (by decide)) (er _ (by decide))⟩, ?_, (by rw [c7]; exact p7.fr e0 (ho _ (by decide)) (er _ (by omega))), (by rw [c8]; exact p8.fr e0 (fun k hk => ho k (by omega)) (fun r _ _ => er r (by omega))), (by rw [c9]; exact p9.fr e0 (fun k hk => ho k (by omega)) (fun r _ _ => er r (by omega))), (by rw [c10]; exact p10.fr e0 (fun k hk => ho k (by omega)) (er _ (by omega)) (er _ (by omega))), ?_⟩
  · obtain ⟨k1, k2, k3, k4, k5, k6, k7, k8⟩ := p6
    unfold gK
    rw [e0]
    exact ⟨(by rw [er 407 (by decide)]; exact k1.trans (h8 1 (by decide)).symm), (by rw [er 412 (by decide)]; exact k2.trans (h8 12 (by decide)).symm), (by rw [er 413 (by decide)]; exact k3.trans (h8 4 (by decide)).symm), (by rw [er 415 (by decide)]; exact k4.trans (h8 7 (by decide)).symm), (by rw [er 420 (by decide)]; exact k5.trans (h8 10 (by decide)).symm), (by rw [er 424 (by decide)]; exact k6.trans (h8 13 (by decide)).symm), (by rw [zset_e]; exact hc.symm), (by rw [er 429 (by decide)]; exact k8.trans (h8 16 (by decide)).symm)⟩
  · intro i i0 i1
    rw [c11] at i1
    rw [e0, er 428 (by decide)]
    by_cases e : i = nRo σ
    · rw [e]; exact nw
    · have := p11 i i0 (by omega)
      rw [hi 20 i (by decide) e]
      exact this
theorem PR.n_k {σ h : zH} (p : PR σ h) {q k v : Int} (hq : q = 407 ∧ k = 1 ∨ q = 412 ∧ k = 12 ∨ q = 429 ∧ k = 16) : PR (zset σ 8 k v) (zset h q (h 403 44) v) := by
  have e0 : zset h q (h 403 44) v 403 44 = h 403 44 := zset_o (by omega)
  have er : ∀ r, r ≠ q → zset h q (h 403 44) v r = h r := fun r hr => by rw [zset_n hr]
  have e8 : ∀ j, j ≠ k → zset σ 8 k v 8 j = σ 8 j := fun j hj => zset_j hj
  have eo : ∀ j, j ≠ 8 → zset σ 8 k v j = σ j := fun j hj => by rw [zset_n hj]
  obtain ⟨p1, ⟨p2, p3, p4, p5⟩, p6, p7, p8, p9, p10, p11⟩ := p
  have c7 : nO (zset σ 8 k v) = nO σ := e8 4 (by omega)
  have c8 : nS (zset σ 8 k v) = nS σ := e8 7 (by omega)
  have c9 : nHo (zset σ 8 k v) = nHo σ := e8 10 (by omega)
  have c10 : nT (zset σ 8 k v) = nT σ := e8 13 (by omega)
  have c11 : nRo (zset σ 8 k v) = nRo σ := e8 15 (by omega)
  refine ⟨p1.fr e0 (eo _ (by decide)) (er _ (by omega)) (er _ (by omega)), ⟨p2.fr e0 (eo _ (by decide)) (er _ (by omega)), p3.fr e0 (eo _ (by decide)) (er _ (by omega)), p4.fr e0 (eo _ (by decide)) (er _ (by omega)), p5.fr e0 (eo _ (by decide)) (er _ (by omega))⟩, ?_, (by rw [c7]; exact p7.fr e0 (eo _ (by decide)) (er _ (by omega))), (by rw [c8]; exact p8.fr e0 (fun j hj => eo j (by omega)) (fun r _ _ => er r (by omega))), (by rw [c9]; exact p9.fr e0 (fun j hj => eo j (by omega)) (fun r _ _ => er r (by omega))), (by rw [c10]; exact p10.fr e0 (fun j hj => eo j (by omega)) (er _ (by omega)) (er _ (by omega))), (by rw [c11]; exact p11.fr e0 (eo _ (by decide)) (er _ (by omega)))⟩
  obtain ⟨k1, k2, k3, k4, k5, k6, k7, k8⟩ := p6
  have one : ∀ r j, (r = 407 ∧ j = 1 ∨ r = 412 ∧ j = 12 ∨ r = 429 ∧ j = 16) → h r (h 403 44) = σ 8 j → zset h q (h 403 44) v r (h 403 44) = zset σ 8 k v 8 j := by
    intro r j hr e
    by_cases z : r = q
    · have zj : j = k := by omega
      rw [z, zj, zset_e, zset_e]
    · rw [zset_o z, zset_j (by omega)]; exact e
  unfold gK
  rw [e0, c7, c8, c9, c10, c11]
  exact ⟨one _ _ (by decide) k1, one _ _ (by decide) k2, by rw [er _ (by omega)]; exact k3, by rw [er _ (by omega)]; exact k4, by rw [er _ (by omega)]; exact k5, by rw [er _ (by omega)]; exact k6, by rw [er _ (by omega)]; exact k7, one _ _ (by decide) k8⟩
