/-! a spring of the class -/
theorem drv_in {σ st : zH} {i p : Int} (hi : 0 ≤ i ∧ i < nS σ) : (if st 1 i ≠ -1 ∧ σ 2 (st 1 i) ≠ -1 ∧ σ 14 i < p + σ 3 (st 1 i) then i else -1) = -1 ∨ (0 ≤ (if st 1 i ≠ -1 ∧ σ 2 (st 1 i) ≠ -1 ∧ σ 14 i < p + σ 3 (st 1 i) then i else -1) ∧ (if st 1 i ≠ -1 ∧ σ 2 (st 1 i) ≠ -1 ∧ σ 14 i < p + σ 3 (st 1 i) then i else -1) < nS σ) ∧ st 1 (if st 1 i ≠ -1 ∧ σ 2 (st 1 i) ≠ -1 ∧ σ 14 i < p + σ 3 (st 1 i) then i else -1) ≠ -1 := by
  by_cases z : st 1 i ≠ -1 ∧ σ 2 (st 1 i) ≠ -1 ∧ σ 14 i < p + σ 3 (st 1 i)
  · rw [if_pos z]; exact Or.inr ⟨hi, z.1⟩
  · rw [if_neg z]; exact Or.inl rfl
theorem drv_ok {σ st : zH} (w : WS σ) (wt : WT σ st) {i p : Int} (hi : 0 ≤ i ∧ i < nS σ) : WT σ (drv σ st i p).1 ∧ trsum r23 (drv σ st i p).2 + rem σ (drv σ st i p).1 ≤ rem σ st ∧ (∀ j, st 1 j = -1 → (drv σ st i p).1 1 j = -1) := drvB_ok w 10 wt (drv_in hi)
theorem sprF_ok {σ : zH} (w : WS σ) {p : Int} {b : Bool} : ∀ (n : Nat) {i : Int} {st : zH}, WT σ st → 0 ≤ i → i + n ≤ nS σ → WT σ (sprF σ p b n i st).1 ∧ trsum r23 (sprF σ p b n i st).2 + rem σ (sprF σ p b n i st).1 ≤ rem σ st ∧ (∀ j, st 1 j = -1 → (sprF σ p b n i st).1 1 j = -1)
  | 0, i, st, wt, _, _ => ⟨wt, by show 0 + rem σ st ≤ rem σ st; omega, fun _ h => h⟩
  | n + 1, i, st, wt, h0, hn => by
    obtain ⟨a1, a2, a3⟩ := drv_ok (p := p) w wt (show 0 ≤ i ∧ i < nS σ by omega)
    unfold sprF
    by_cases z : (b && hasRu (drv σ st i p).2) = true
    · rw [if_pos z]; exact ⟨a1, a2, a3⟩
    · rw [if_neg z]
      obtain ⟨i1, i2, i3⟩ := sprF_ok w (p := p) (b := b) n a1 (show 0 ≤ i + 1 by omega) (by omega)
      refine ⟨i1, ?_, fun j hj => i3 j (a3 j hj)⟩
      show trsum r23 ((drv σ st i p).2 ++ (sprF σ p b n (i + 1) (drv σ st i p).1).2) + rem σ (sprF σ p b n (i + 1) (drv σ st i p).1).1 ≤ _
      rw [trsum_app]; omega
/-- ruins among events -/
theorem ru_evs {s y : Int} : ∀ rs : List zRec, 0 ≤ esum eRu (evs s y rs) ∧ esum eRu (evs s y rs) ≤ rsum r23 rs ∧ (0 < esum eRu (evs s y rs) ↔ rs.any (fun r => decide (r.1 = 3)) = true)
  | [] => ⟨Int.le_refl _, Int.le_refl _, ⟨(fun h => absurd h (show ¬ (0 : Int) < 0 by decide)), (fun h => by cases h)⟩⟩
  | r :: rs => by
    obtain ⟨a1, a2, a3⟩ := ru_evs (s := s) (y := y) rs
    have e1 : esum eRu (evs s y (r :: rs)) = (if r.1 = 3 then 1 else 0) + esum eRu (evs s y rs) := rfl
    have e2 : rsum r23 (r :: rs) = (if r.1 = 2 ∨ r.1 = 3 then 1 else 0) + rsum r23 rs := rfl
    rw [e1, e2, List.any_cons, Bool.or_eq_true, decide_eq_true_iff, ← a3]
    by_cases z : r.1 = 3
    · rw [if_pos z, if_pos (Or.inr z)]
      exact ⟨by omega, by omega, ⟨fun _ => Or.inl z, fun _ => by omega⟩⟩
    · rw [if_neg z]
      refine ⟨by omega, ?_, ⟨fun h => Or.inr (by omega), fun h => ?_⟩⟩
      · split <;> omega
      · rcases h with h | h
        · exact absurd h z
        · omega
theorem ru_tr {σ : zH} : ∀ tr : zTr, 0 ≤ esum eRu (trEv σ tr) ∧ esum eRu (trEv σ tr) ≤ trsum r23 tr ∧ (0 < esum eRu (trEv σ tr) ↔ hasRu tr = true)
  | [] => ⟨Int.le_refl _, Int.le_refl _, ⟨(fun h => absurd h (show ¬ (0 : Int) < 0 by decide)), (fun h => by cases h)⟩⟩
  | x :: tr => by
    obtain ⟨a1, a2, a3⟩ := ru_tr (σ := σ) tr
    obtain ⟨b1, b2, b3⟩ := ru_evs (s := x.1) (y := σ 6 x.2.1) x.2.2
    have e1 : esum eRu (trEv σ (x :: tr)) = esum eRu (evs x.1 (σ 6 x.2.1) x.2.2) + esum eRu (trEv σ tr) := esum_app _ _ _
    have e2 : trsum r23 (x :: tr) = rsum r23 x.2.2 + trsum r23 tr := rfl
    have e3 : hasRu (x :: tr) = (x.2.2.any (fun r => decide (r.1 = 3)) || hasRu tr) := rfl
    rw [e1, e2, e3, Bool.or_eq_true, ← a3, ← b3]
    refine ⟨by omega, by omega, ⟨fun h => ?_, fun h => ?_⟩⟩
    · by_cases z : 0 < esum eRu (evs x.1 (σ 6 x.2.1) x.2.2)
      · exact Or.inl z
      · exact Or.inr (by omega)
    · rcases h with h | h <;> omega
theorem hasRu_app (a b : zTr) : hasRu (a ++ b) = (hasRu a || hasRu b) := List.any_append
def frM (T m : Int) (h h' : zH) : Prop := ∀ r, ¬ (T ≤ r ∧ r < T + 8 ∨ m ≤ r ∧ r < m + 3) → h' r = h r
theorem frM.t {T m : Int} {a b c : zH} (h1 : frM T m a b) (h2 : frM T m b c) : frM T m a c := fun r hr => (h2 r hr).trans (h1 r hr)
/-- behind the rolls of one stone -/
theorem q_push35 {σ : zH} (w : WS σ) {d : Nat} {a T m x4 x5 x6 x7 : Int} (hm : MA m) (hp : 0 ≤ x5 ∧ x5 ≤ 2000000) (h7 : 0 ≤ x7 ∧ x7 < nS σ) {Q : zV → zH → Prop} {st h : zH} {tr : zTr} (pi : PI σ tr st a T m h)
    (k : ∀ h', PI σ (tr ++ (drv σ st x7 x5).2) (drv σ st x7 x5).1 a T m h' → frM T m h h' → zWp (l_Mover_pushSome_9 (d + 3) m x4 x5 x6 (w32 (x7 + 1)) h') Q) : zWp (l_Mover_pushSome_35 (d + 3) m x4 x5 x6 x7 h) Q := by
  have hml := hm.low
  have pi0 := pi
  obtain ⟨g, t, wt, mv, e7, e13, ea, eT, hcl⟩ := pi
  have hT := t.1.low
  rw [el_Mover_pushSome_35, ea, eT]
  refine zWp_po (by omega) (zWp_po (by omega) (zWp_po (by omega) (zWp_qi (q_starts g w t wt h7 hp) ?_)))
  by_cases z : st 1 x7 ≠ -1 ∧ σ 2 (st 1 x7) ≠ -1 ∧ σ 14 x7 < x5 + σ 3 (st 1 x7)
  · rw [if_pos z]
    refine zWp_nt (by decide) (q_push64 w hm 10 (by decide) pi0 (Or.inr ⟨h7, z.1⟩) fun h' p' f' => k h' ?_ f')
    unfold drv; rw [if_pos z]; exact p'
  · rw [if_neg z]
    refine zWp_it rfl (q_push64 w hm 10 (by decide) pi0 (Or.inl rfl) fun h' p' f' => k h' ?_ f')
    unfold drv; rw [if_neg z]; exact p'
theorem q_push9 {σ : zH} (w : WS σ) {d : Nat} {a T m x4 x5 x6 : Int} {b : Bool} (hm : MA m) (hp : 0 ≤ x5 ∧ x5 ≤ 2000000) (h6 : b = decide (x6 ≠ 0)) (h4 : x4 ≤ nS σ) {st0 : zH} : ∀ (n : Nat) {i : Int} {st h : zH} {tr : zTr}, 0 ≤ i → i + n = x4 → PI σ tr st a T m h → trsum r23 tr + rem σ st ≤ 68 → (b = true → hasRu tr = false) →
    zWp (l_Mover_pushSome_9 (d + 3) m x4 x5 x6 i h) (fun _ h' => PI σ (tr ++ (sprF σ x5 b n i st).2) (sprF σ x5 b n i st).1 a T m h' ∧ frM T m h h')
  | 0, i, st, h, tr, hi, hn, pi, _, _ => by
    rw [el_Mover_pushSome_9]
    refine zWp_nt (by omega) (zWp_s ⟨?_, fun _ _ => rfl⟩)
    show PI σ (tr ++ []) st a T m h
    rw [List.append_nil]; exact pi
  | n + 1, i, st, h, tr, hi, hn, pi, hr, hb => by
    have hml := hm.low
    have hS10 : nS σ ≤ 10 := w.2.1.2.2.2.1
    have h7 : 0 ≤ i ∧ i < nS σ := by omega
    obtain ⟨a1, a2, a3⟩ := drv_ok (p := x5) w pi.2.2.1 h7
    have hw : w32 (i + 1) = i + 1 := w32_i (by omega)
    rw [el_Mover_pushSome_9]
    refine zWp_it (by omega) (zWp_it (by omega) ?_)
    have key : zWp (l_Mover_pushSome_35 (d + 3) m x4 x5 x6 i h) (fun _ h' => PI σ (tr ++ (sprF σ x5 b (n + 1) i st).2) (sprF σ x5 b (n + 1) i st).1 a T m h' ∧ frM T m h h') := by
      refine q_push35 w hm hp h7 pi fun h' p' f' => ?_
      rw [hw]
      have hr' : trsum r23 (tr ++ (drv σ st i x5).2) + rem σ (drv σ st i x5).1 ≤ 68 := by rw [trsum_app]; omega
      by_cases z : (b && hasRu (drv σ st i x5).2) = true
      · have eS : sprF σ x5 b (n + 1) i st = drv σ st i x5 := by rw [sprF, if_pos z]
        rw [eS]
        rw [Bool.and_eq_true] at z
        rw [el_Mover_pushSome_9]
        refine zWp_if (fun _ => zWp_if (fun _ => ?_) (fun _ => zWp_s ⟨p', f'⟩)) (fun _ => zWp_s ⟨p', f'⟩)
        have hx6 : ¬ x6 = 0 := of_decide_eq_true (h6.symm.trans z.1)
        refine zWp_nt hx6 (zWp_po (by omega) (zWp_it ?_ (zWp_s ⟨p', f'⟩)))
        have hru := ru_tr (σ := σ) (tr ++ (drv σ st i x5).2)
        have hrl := rem_le (st := (drv σ st i x5).1) w
        have : 0 < esum eRu (trEv σ (tr ++ (drv σ st i x5).2)) := hru.2.2.mpr (by rw [hasRu_app, z.2, Bool.or_true])
        rw [p'.2.2.2.1.2.1, w32_i (by omega)]
        exact this
      · have eS : sprF σ x5 b (n + 1) i st = ((sprF σ x5 b n (i + 1) (drv σ st i x5).1).1, (drv σ st i x5).2 ++ (sprF σ x5 b n (i + 1) (drv σ st i x5).1).2) := by rw [sprF, if_neg z]
        rw [eS]
        refine zWp_m (q_push9 w hm hp h6 h4 (st0 := st0) n (by omega) (by omega) p' hr' (fun hbt => ?_)) ?_
        · rw [hasRu_app, hb hbt, Bool.false_or]
          cases hq : hasRu (drv σ st i x5).2
          · rfl
          · exact absurd (by rw [hbt, hq]; rfl) z
        · rintro v h2 ⟨k1, k2⟩
          refine ⟨?_, f'.t k2⟩
          rw [List.append_assoc] at k1
          exact k1
    refine zWp_if (fun _ => key) (fun hx => zWp_po (by omega) (zWp_nt ?_ key))
    have hbt : b = true := by rw [h6]; exact decide_eq_true hx
    have hru := ru_tr (σ := σ) tr
    have hrl := rem_le (st := st) w
    have : ¬ 0 < esum eRu (trEv σ tr) := fun z => by rw [hru.2.2, hb hbt] at z; cases z
    rw [pi.2.2.2.1.2.1, w32_i (by omega)]
    exact this
