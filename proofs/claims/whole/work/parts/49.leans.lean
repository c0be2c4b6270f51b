/-! leans -/
def lnA (σ st : zH) (b : Int) : Nat → Int → Int
  | 0, _ => 0
  | n + 1, s => if s = -1 then 0 else if s = b then 1 else lnA σ st b n (leanA σ st s)
def vLeans (σ st : zH) (x y : Int) : Int := if (0 ≤ x ∧ x < nS σ) ∧ (0 ≤ y ∧ y < nS σ) then lnA σ st y 10 (leanA σ st x) else -1
theorem lean_in {σ st : zH} (w : WS σ) (wt : WT σ st) {s : Int} (hs : 0 ≤ s ∧ s < nS σ) (hl : ¬ leanA σ st s = -1) : (0 ≤ leanA σ st s ∧ leanA σ st s < nS σ) ∧ bls σ st (leanA σ st s) < bls σ st s := by
  have hS0 : 0 ≤ nS σ := w.2.1.2.2.1
  unfold leanA at hl ⊢
  by_cases c : st 1 s = -1 ∨ σ 2 (st 1 s) = -1
  · rw [if_pos c] at hl; exact absurd rfl hl
  · rw [if_neg c] at hl ⊢
    have c1 : ¬ st 1 s = -1 := fun z => c (Or.inl z)
    have c2 : ¬ σ 2 (st 1 s) = -1 := fun z => c (Or.inr z)
    have hc := place_in wt hs c1
    have hx := next_in w hc c2
    obtain ⟨o1, o2, o3⟩ := sAt_in hS0 hl
    obtain ⟨o, eo⟩ : ∃ o, sAt σ st (σ 2 (st 1 s)) = o := ⟨_, rfl⟩
    rw [eo] at o1 o2 o3 ⊢
    refine ⟨⟨o1, o2⟩, ?_⟩
    unfold bls
    have a := zct_mn (f := fun i => decide (st 1 i ≠ -1 ∧ σ 1 (st 1 i) < σ 1 (st 1 s)) && decide (i ≠ o)) (g := fun i => decide (st 1 i ≠ -1 ∧ σ 1 (st 1 i) < σ 1 (st 1 o))) (nS σ).toNat 0 (fun j _ _ hj => by
      have hj := of_decide_eq_true hj
      rw [o3] at hj
      rw [Bool.and_eq_true]
      refine ⟨decide_eq_true ⟨hj.1, by omega⟩, decide_eq_true (fun z => ?_)⟩
      rw [z, o3] at hj
      omega)
    have b := zct_upd (f := fun i => decide (st 1 i ≠ -1 ∧ σ 1 (st 1 i) < σ 1 (st 1 s))) (g := fun i => decide (st 1 i ≠ -1 ∧ σ 1 (st 1 i) < σ 1 (st 1 s)) && decide (i ≠ o)) (j := o) (decide_eq_true (by rw [o3]; omega)) (by simp) (nS σ).toNat 0 o1 (by omega) (fun x _ _ hx => by simp [hx])
    omega
theorem q_leans34 {d : Nat} {σ st : zH} {a b : Int} {h : zH} (c : BC σ st a h) : ∀ (n : Nat) {s i : Int}, (s = -1 ∨ 0 ≤ s ∧ s < nS σ) → 0 ≤ i → i + n = 10 → l_B_leans_34 (d + 3) b s i h = some (.inl (lnA σ st b n s), h)
  | 0, s, i, hs, hi, hn => by rw [el_B_leans_34, if_neg (by omega)]; rfl
  | n + 1, s, i, hs, hi, hn => by
    rw [el_B_leans_34, if_pos (by omega)]
    unfold lnA
    by_cases z : s = -1
    · rw [if_pos z, if_pos z]
    · have hs1 : 0 ≤ s ∧ s < nS σ := by omega
      rw [if_neg z, if_neg z]
      by_cases y : s = b
      · rw [if_pos y, if_pos y]
      · rw [if_neg y, if_neg y, c.1, q_leansOn c.2.1 c.2.2.2.1 c.2.2.1 c.2.2.2.2 hs1, zqi_s, w32_i (by omega)]
        refine q_leans34 c n ?_ (by omega) (by omega)
        by_cases q : leanA σ st s = -1
        · exact Or.inl q
        · exact Or.inr (lean_in c.2.2.2.1 c.2.2.2.2 hs1 q).1
theorem q_leans {d : Nat} {σ st : zH} {a x y : Int} {h : zH} (c : BC σ st a h) : zWp (m_B_leans (d + 4) x y h) (fun v h' => v = .inl (vLeans σ st x y) ∧ h' = h) := by
  rw [em_B_leans]
  refine zWp_qi (q_hasStone c) ?_
  by_cases c1 : 0 ≤ x ∧ x < nS σ
  · rw [if_pos c1]
    refine zWp_nt (by decide) (zWp_qi (q_hasStone c) ?_)
    by_cases c2 : 0 ≤ y ∧ y < nS σ
    · have ev : vLeans σ st x y = lnA σ st y 10 (leanA σ st x) := by unfold vLeans; exact if_pos ⟨c1, c2⟩
      rw [if_pos c2, c.1, ev]
      refine zWp_nt (by decide) (zWp_qi (q_leansOn c.2.1 c.2.2.2.1 c.2.2.1 c.2.2.2.2 c1) ?_)
      rw [q_leans34 c 10 ?_ (by omega) (by omega)]
      · exact zWp_s ⟨rfl, rfl⟩
      · by_cases q : leanA σ st x = -1
        · exact Or.inl q
        · exact Or.inr (lean_in c.2.2.2.1 c.2.2.2.2 c1 q).1
    · have ev : vLeans σ st x y = -1 := by unfold vLeans; exact if_neg (fun z => c2 z.2)
      rw [if_neg c2, ev]
      exact zWp_it rfl (zWp_s ⟨rfl, rfl⟩)
  · have ev : vLeans σ st x y = -1 := by unfold vLeans; exact if_neg (fun z => c1 z.1)
    rw [if_neg c1, ev]
    exact zWp_it rfl (zWp_s ⟨rfl, rfl⟩)
theorem q_R_leans20 {d : Nat} {σ st h : zH} {b : Int} (c : RC σ st h) (hb : 0 ≤ b) : ∀ (n : Nat) {s : Int}, 0 ≤ s ∧ s < nS σ → bls σ st s < n → zWp (l_R_leans_20 (d + 1) b s h) (fun v h' => v = .inl (lnA σ st b n (leanA σ st s)) ∧ h' = h)
  | 0, s, hs, hl => by have := bls_le (st := st) c.2.2.1 hs; omega
  | n + 1, s, hs, hl => by
    have hn := c.2.2.1.n
    have hS10 : nS σ ≤ 10 := c.2.2.1.2.1.2.2.2.1
    have e444 : h 444 s = st 1 s := by
      have := (c.2.1.2.1 s hs.1 hs.2).1
      rwa [show 10 * 0 + s = s by omega] at this
    have none1 : ∀ m, zWp (l_R_leans_66 (d + 1) b (-1) h) (fun v h' => v = .inl (lnA σ st b (m + 1) (-1)) ∧ h' = h) := fun m => by
      rw [el_R_leans_66]
      refine zWp_nt (by omega) ?_
      rw [el_R_leans_20]
      refine zWp_it rfl (zWp_s ⟨?_, rfl⟩)
      unfold lnA
      rw [if_pos rfl]
    rw [el_R_leans_20, e444]
    refine zWp_nt (by omega) (zWp_it (by omega) ?_)
    by_cases c1 : st 1 s = -1
    · have eL : leanA σ st s = -1 := by unfold leanA; rw [if_pos (Or.inl c1)]
      rw [eL]
      exact zWp_it c1 (none1 n)
    · have hc := place_in c.2.2.2 hs c1
      have e454 : h 454 (st 1 s) = σ 2 (st 1 s) := (c.1.2.2.1 _ hc.1 hc.2).2.1
      rw [e454]
      refine zWp_nt c1 (zWp_it (by omega) ?_)
      by_cases c2 : σ 2 (st 1 s) = -1
      · have eL : leanA σ st s = -1 := by unfold leanA; rw [if_pos (Or.inr c2)]
        rw [eL]
        exact zWp_it c2 (none1 n)
      · have eL : leanA σ st s = sAt σ st (σ 2 (st 1 s)) := by unfold leanA; rw [if_neg (fun z => by rcases z with z | z; exact c1 z; exact c2 z)]
        refine zWp_nt c2 (zWp_it (by omega) (zWp_qi (q_R_stoneAt c.2.2.1 c.1 c.2.1) ?_))
        rw [← eL]
        by_cases c3 : leanA σ st s = -1
        · rw [c3]; exact none1 n
        · have hl2 := lean_in c.2.2.1 c.2.2.2 hs c3
          have eN : lnA σ st b (n + 1) (leanA σ st s) = (if leanA σ st s = b then 1 else lnA σ st b n (leanA σ st (leanA σ st s))) := by rw [lnA, if_neg c3]
          rw [el_R_leans_66, eN]
          refine zWp_if (fun c4 => zWp_s ⟨by rw [if_pos c4], rfl⟩) (fun c4 => ?_)
          rw [if_neg c4]
          exact q_R_leans20 c hb n hl2.1 (by omega)
theorem q_R_leans {d : Nat} {σ st h : zH} {x y : Int} (c : RC σ st h) : zWp (m_R_leans (d + 2) x y h) (fun v h' => v = .inl (vLeans σ st x y) ∧ h' = h) := by
  rw [em_R_leans]
  refine zWp_qi (q_R_isStone c.1) ?_
  by_cases c1 : 0 ≤ x ∧ x < nS σ
  · rw [if_pos c1]
    refine zWp_nt (by decide) (zWp_qi (q_R_isStone c.1) ?_)
    by_cases c2 : 0 ≤ y ∧ y < nS σ
    · have ev : vLeans σ st x y = lnA σ st y 10 (leanA σ st x) := by unfold vLeans; exact if_pos ⟨c1, c2⟩
      rw [if_pos c2, ev]
      exact zWp_nt (by decide) (q_R_leans20 c c2.1 10 c1 (bls_le c.2.2.1 c1).2)
    · have ev : vLeans σ st x y = -1 := by unfold vLeans; exact if_neg (fun z => c2 z.2)
      rw [if_neg c2, ev]
      exact zWp_it rfl (zWp_s ⟨rfl, rfl⟩)
  · have ev : vLeans σ st x y = -1 := by unfold vLeans; exact if_neg (fun z => c1 z.1)
    rw [if_neg c1, ev]
    exact zWp_it rfl (zWp_s ⟨rfl, rfl⟩)
