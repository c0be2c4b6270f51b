/-! what a roll keeps -/
def r23 (r : zRec) : Int := if r.1 = 2 ∨ r.1 = 3 then 1 else 0
def rsum (f : zRec → Int) : List zRec → Int
  | [] => 0
  | r :: rs => f r + rsum f rs
def RollOk (σ st : zH) (s c : Int) (q : zRo) : Prop :=
  WT σ q.1 ∧ rsum r23 q.2.1 + rem σ q.1 ≤ rem σ st ∧ (∀ i, ¬ i = s → q.1 1 i = st 1 i) ∧ (0 ≤ q.1 1 s ∧ q.1 1 s < nC σ) ∧ σ 1 (q.1 1 s) ≤ σ 1 c ∧ (q.2.2.1 = -1 ∨ (0 ≤ q.2.2.1 ∧ q.2.2.1 < nS σ) ∧ σ 2 (q.1 1 s) = q.1 1 q.2.2.1 ∧ 0 ≤ q.1 1 q.2.2.1 ∧ ¬ q.2.2.1 = s ∧ σ 1 (q.1 1 q.2.2.1) < σ 1 (q.1 1 s) ∧ 0 ≤ q.2.2.2 ∧ q.2.2.2 ≤ 998001) ∧ Four q.1 st
theorem rollA_ok {σ : zH} (w : WS σ) {s : Int} (hs : 0 ≤ s ∧ s < nS σ) : ∀ (f : Nat) {st : zH} {c sp k : Int}, WT σ st → st 1 s = c → 0 ≤ c ∧ c < nC σ → 0 ≤ sp ∧ sp + σ 1 c ≤ 999 → RollOk σ st s c (rollA σ f st s c sp k)
  | 0, st, c, sp, k, wt, hc, hcc, hsp => ⟨wt, by show 0 + rem σ st ≤ rem σ st; omega, fun _ _ => rfl, by show 0 ≤ st 1 s ∧ st 1 s < _; rw [hc]; exact hcc, by show σ 1 (st 1 s) ≤ _; rw [hc]; omega, Or.inl rfl, rfl, rfl, rfl, rfl⟩
  | f + 1, st, c, sp, k, wt, hc, hcc, hsp => by
    have hS0 : 0 ≤ nS σ := w.2.1.2.2.1
    have hC := w.2.2.1 c hcc.1 hcc.2
    by_cases h1 : σ 2 c = -1
    · rw [rollA_no h1]
      exact ⟨wt, by show 0 + rem σ st ≤ rem σ st; omega, fun _ _ => rfl, by show 0 ≤ st 1 s ∧ st 1 s < _; rw [hc]; exact hcc, by show σ 1 (st 1 s) ≤ _; rw [hc]; omega, Or.inl rfl, rfl, rfl, rfl, rfl⟩
    have hN : 0 ≤ σ 2 c ∧ σ 2 c < nC σ ∧ σ 3 c = σ 1 c - σ 1 (σ 2 c) ∧ 1 ≤ σ 3 c := by
      rcases hC.2.2 with z | z
      · exact absurd z.1 h1
      · exact z
    have hN1 := (w.2.2.1 _ hN.1 hN.2.1).1
    have hsp1 : 1 ≤ sp + σ 3 c ∧ sp + σ 3 c ≤ 999 := by omega
    clear hC
    by_cases h2 : sAt σ st (σ 2 c) = -1
    · obtain ⟨b1, b2, b3, b4, b5, b6, b7⟩ := stepB_ok (k := k) w wt hs ⟨hN.1, hN.2.1⟩ h2 hsp1
      have hplace : (0 ≤ (stepB σ st s (σ 2 c) (sp + σ 3 c) k).1 1 s ∧ (stepB σ st s (σ 2 c) (sp + σ 3 c) k).1 1 s < nC σ) ∧ σ 1 ((stepB σ st s (σ 2 c) (sp + σ 3 c) k).1 1 s) ≤ σ 1 c := by
        rcases b4 with z | z
        · rw [z.2, hc]; exact ⟨hcc, Int.le_refl _⟩
        · rw [z.2.2]; exact ⟨⟨hN.1, hN.2.1⟩, by omega⟩
      by_cases h3 : (stepB σ st s (σ 2 c) (sp + σ 3 c) k).2.2 = 0
      · rw [rollA_end h1 h2 h3]
        refine ⟨b1, ?_, b3, hplace.1, hplace.2, Or.inl rfl, b7⟩
        show (r23 (stepB σ st s (σ 2 c) (sp + σ 3 c) k).2.1 + 0) + rem σ (stepB σ st s (σ 2 c) (sp + σ 3 c) k).1 ≤ _
        unfold r23; omega
      · rw [rollA_go h1 h2 h3]
        have hb2 : 1 ≤ (stepB σ st s (σ 2 c) (sp + σ 3 c) k).2.2 ∧ (stepB σ st s (σ 2 c) (sp + σ 3 c) k).2.2 ≤ sp + σ 3 c ∧ 2 ≤ (stepB σ st s (σ 2 c) (sp + σ 3 c) k).2.1.1 := by
          rcases b2 with z | z
          · exact absurd z h3
          · exact z
        have hbn : (stepB σ st s (σ 2 c) (sp + σ 3 c) k).1 1 s = σ 2 c := by
          rcases b4 with z | z
          · omega
          · exact z.2.2
        obtain ⟨i1, i2, i3, i4, i5, i6, i7⟩ := rollA_ok w hs f (k := k + 1) b1 hbn ⟨hN.1, hN.2.1⟩ (show 0 ≤ (stepB σ st s (σ 2 c) (sp + σ 3 c) k).2.2 ∧ (stepB σ st s (σ 2 c) (sp + σ 3 c) k).2.2 + σ 1 (σ 2 c) ≤ 999 by omega)
        refine ⟨i1, ?_, fun i hi => (i3 i hi).trans (b3 i hi), i4, ?_, i6, i7.t b7⟩
        · show r23 _ + rsum r23 _ + rem σ (rollA σ f _ s _ _ _).1 ≤ _
          unfold r23; unfold r23 at i2; omega
        · show σ 1 ((rollA σ f _ s _ _ _).1 1 s) ≤ _
          omega
    · rw [rollA_bar h1 h2]
      have hO := sAt_in hS0 h2
      have hWo : 1 ≤ σ 13 (sAt σ st (σ 2 c)) := (w.2.2.2.2.1 _ hO.1 hO.2.1).1
      have hW : 1 ≤ σ 13 s ∧ σ 13 s ≤ 999 := ⟨(w.2.2.2.2.1 s hs.1 hs.2).1, (w.2.2.2.2.1 s hs.1 hs.2).2.1⟩
      have hF := frc hsp1 hW
      refine ⟨wt, ?_, fun _ _ => rfl, by show 0 ≤ st 1 s ∧ st 1 s < _; rw [hc]; exact hcc, by show σ 1 (st 1 s) ≤ _; rw [hc]; omega, Or.inr ⟨⟨hO.1, hO.2.1⟩, ?_, ?_, ?_, ?_, ?_, ?_⟩, rfl, rfl, rfl, rfl⟩
      · show (r23 (0, _, _, _, _) + 0) + rem σ st ≤ rem σ st
        unfold r23; rw [if_neg (show ¬ ((0 : Int) = 2 ∨ (0 : Int) = 3) by decide)]; omega
      · show σ 2 (st 1 s) = st 1 (sAt σ st (σ 2 c)); rw [hc, hO.2.2]
      · show 0 ≤ st 1 (sAt σ st (σ 2 c)); rw [hO.2.2]; exact hN.1
      · intro z
        have : st 1 s = σ 2 c := by rw [← z]; exact hO.2.2
        rw [hc] at this
        have h3 : σ 3 c = 0 := by rw [hN.2.2.1, ← this]; omega
        omega
      · show σ 1 (st 1 (sAt σ st (σ 2 c))) < σ 1 (st 1 s); rw [hc, hO.2.2]; omega
      · show 0 ≤ Int.tdiv _ _
        rw [Int.tdiv_eq_ediv_of_nonneg (by omega)]
        exact Int.ediv_nonneg (by omega) (by omega)
      · show Int.tdiv _ _ ≤ 998001
        rw [Int.tdiv_eq_ediv_of_nonneg (by omega)]
        have := Int.ediv_le_self (σ 13 (sAt σ st (σ 2 c))) (show 0 ≤ (sp + σ 3 c) * σ 13 s by omega)
        omega
theorem rollS_ok {σ st : zH} (w : WS σ) (wt : WT σ st) {s : Int} (hs : 0 ≤ s ∧ s < nS σ) (hl : st 1 s ≠ -1) : RollOk σ (zset st 2 s (st 2 s + 1)) s (st 1 s) (rollS σ st s) := by
  have hc : 0 ≤ st 1 s ∧ st 1 s < nC σ := by
    rcases (wt.1 s hs.1 hs.2).1 with q | q
    · exact absurd q hl
    · exact q
  have hH := (w.2.2.1 _ hc.1 hc.2).2.1
  exact rollA_ok w hs 60 wt.h2 (zset_o (by decide)) hc (by omega)
def trsum (f : zRec → Int) : zTr → Int
  | [] => 0
  | x :: tr => rsum f x.2.2 + trsum f tr
theorem trsum_app (f : zRec → Int) : ∀ a b : zTr, trsum f (a ++ b) = trsum f a + trsum f b
  | [], b => by show trsum f b = 0 + trsum f b; omega
  | x :: a, b => by
    show rsum f x.2.2 + trsum f (a ++ b) = rsum f x.2.2 + trsum f a + trsum f b
    rw [trsum_app f a b]; omega
theorem drvB_ok {σ : zH} (w : WS σ) : ∀ (f : Nat) {st : zH} {s : Int}, WT σ st → (s = -1 ∨ (0 ≤ s ∧ s < nS σ) ∧ st 1 s ≠ -1) → WT σ (drvB σ f st s).1 ∧ trsum r23 (drvB σ f st s).2 + rem σ (drvB σ f st s).1 ≤ rem σ st ∧ (∀ i, st 1 i = -1 → (drvB σ f st s).1 1 i = -1)
  | 0, st, s, wt, _ => ⟨wt, by show 0 + rem σ st ≤ rem σ st; omega, fun _ h => h⟩
  | f + 1, st, s, wt, hs => by
    unfold drvB
    by_cases e : s = -1
    · rw [if_pos e]; exact ⟨wt, by show 0 + rem σ st ≤ rem σ st; omega, fun _ h => h⟩
    · rw [if_neg e]
      have hs1 : (0 ≤ s ∧ s < nS σ) ∧ st 1 s ≠ -1 := by
        rcases hs with z | z
        · exact absurd z e
        · exact z
      obtain ⟨a1, a2, a3, -⟩ := rollS_ok w wt hs1.1 hs1.2
      obtain ⟨i1, i2, i3⟩ := drvB_ok w f a1 (pushed_ok (st := st) (s := s) w.2.1.2.2.1)
      rw [rem_2] at a2
      refine ⟨i1, ?_, fun i hi => i3 i ?_⟩
      · show rsum r23 (rollS σ st s).2.1 + trsum r23 (drvB σ f (rollS σ st s).1 (pushed σ (rollS σ st s))).2 + rem σ (drvB σ f (rollS σ st s).1 (pushed σ (rollS σ st s))).1 ≤ _
        omega
      · have : ¬ i = s := fun z => hs1.2 (by rw [← z]; exact hi)
        rw [a3 i this, zset_o (by decide)]; exact hi
