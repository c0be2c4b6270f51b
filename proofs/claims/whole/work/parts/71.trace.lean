/-! what a roll leaves as it is, and what its records hold -/
theorem stepB_k {σ st : zH} {s n sp m k : Int} (h1 : ¬ k = 1) (h3 : ¬ k = 3) (h5 : ¬ k = 5) (h9 : ¬ k = 9) : (stepB σ st s n sp m).1 k = st k := by
  unfold stepB
  by_cases q5 : 0 < st 5 n
  · rw [if_pos q5]
    by_cases q6 : sp * σ 13 s ≤ st 5 n
    · rw [if_pos q6]; exact zset_n h5
    · rw [if_neg q6]
      show come (zset st 5 n 0) s n k = st k
      rw [come_k h1 h3, zset_n h5]
  · rw [if_neg q5]
    by_cases hw : σ 7 n ≠ -1 ∧ st 9 (σ 7 n) ≠ 1
    · rw [if_pos hw]
      show come (zset st 9 (σ 7 n) 1) s n k = st k
      rw [come_k h1 h3, zset_n h9]
    · rw [if_neg hw]
      show come st s n k = st k
      rw [come_k h1 h3]
theorem rollA_k {σ : zH} {k : Int} (k1 : ¬ k = 1) (k3 : ¬ k = 3) (k5 : ¬ k = 5) (k9 : ¬ k = 9) : ∀ (f : Nat) (st : zH) (s c sp m : Int), (rollA σ f st s c sp m).1 k = st k
  | 0, st, s, c, sp, m => rfl
  | f + 1, st, s, c, sp, m => by
    by_cases h1 : σ 2 c = -1
    · rw [rollA_no h1]
    · by_cases h2 : sAt σ st (σ 2 c) = -1
      · by_cases h3 : (stepB σ st s (σ 2 c) (sp + σ 3 c) m).2.2 = 0
        · rw [rollA_end h1 h2 h3]; exact stepB_k k1 k3 k5 k9
        · rw [rollA_go h1 h2 h3]
          show (rollA σ f _ s _ _ _).1 k = st k
          rw [rollA_k k1 k3 k5 k9 f, stepB_k k1 k3 k5 k9]
      · rw [rollA_bar h1 h2]
theorem drvB_k {σ : zH} {k : Int} (k1 : ¬ k = 1) (k2 : ¬ k = 2) (k3 : ¬ k = 3) (k5 : ¬ k = 5) (k9 : ¬ k = 9) : ∀ (f : Nat) (st : zH) (s : Int), (drvB σ f st s).1 k = st k
  | 0, st, s => rfl
  | f + 1, st, s => by
    unfold drvB
    by_cases e : s = -1
    · rw [if_pos e]
    · rw [if_neg e]
      show (drvB σ f (rollS σ st s).1 (pushed σ (rollS σ st s))).1 k = st k
      rw [drvB_k k1 k2 k3 k5 k9 f]
      unfold rollS
      rw [rollA_k k1 k3 k5 k9, zset_n k2]
theorem drv_k {σ st : zH} {s p k : Int} (k1 : ¬ k = 1) (k2 : ¬ k = 2) (k3 : ¬ k = 3) (k5 : ¬ k = 5) (k9 : ¬ k = 9) : (drv σ st s p).1 k = st k := drvB_k k1 k2 k3 k5 k9 10 st _
theorem sprF_k {σ : zH} {p k : Int} {b : Bool} (k1 : ¬ k = 1) (k2 : ¬ k = 2) (k3 : ¬ k = 3) (k5 : ¬ k = 5) (k9 : ¬ k = 9) : ∀ (n : Nat) (i : Int) (st : zH), (sprF σ p b n i st).1 k = st k
  | 0, i, st => rfl
  | n + 1, i, st => by
    unfold sprF
    by_cases e : (b && hasRu (drv σ st i p).2) = true
    · rw [if_pos e]; exact drv_k k1 k2 k3 k5 k9
    · rw [if_neg e]
      show (sprF σ p b n (i + 1) (drv σ st i p).1).1 k = st k
      rw [sprF_k k1 k2 k3 k5 k9 n, drv_k k1 k2 k3 k5 k9]
def rcOk (σ : zH) (r : zRec) : Prop := (0 ≤ r.2.1 ∧ r.2.1 < nC σ) ∧ (0 ≤ r.2.2.1 ∧ r.2.2.1 ≤ 9999) ∧ (0 ≤ r.2.2.2.1 ∧ r.2.2.2.1 ≤ 9999) ∧ (0 ≤ r.2.2.2.2 ∧ r.2.2.2.2 ≤ 9999)
theorem stepB_v {σ st : zH} (w : WS σ) (wt : WT σ st) {s n sp k : Int} (hn : 0 ≤ n ∧ n < nC σ) : 0 ≤ (stepB σ st s n sp k).2.1.2.2.2.1 ∧ (stepB σ st s n sp k).2.1.2.2.2.1 ≤ 9999 := by
  have hE5 : 0 ≤ st 5 n ∧ st 5 n ≤ 9999 := ⟨(wt.2.1 n hn.1 hn.2).1, (wt.2.1 n hn.1 hn.2).2.1⟩
  have hD7 : -1 ≤ σ 7 n ∧ σ 7 n < nHo σ := ⟨(w.2.2.2.1 n hn.1 hn.2).2.2.2.2.2.2.1, (w.2.2.2.1 n hn.1 hn.2).2.2.2.2.2.2.2.1⟩
  unfold stepB
  by_cases q5 : 0 < st 5 n
  · rw [if_pos q5]
    by_cases q6 : sp * σ 13 s ≤ st 5 n
    · rw [if_pos q6]; exact hE5
    · rw [if_neg q6]; exact hE5
  · rw [if_neg q5]
    by_cases hw : σ 7 n ≠ -1 ∧ st 9 (σ 7 n) ≠ 1
    · rw [if_pos hw]
      have := w.2.2.2.2.2.1 (σ 7 n) (by omega) hD7.2
      show 0 ≤ σ 16 (σ 7 n) ∧ σ 16 (σ 7 n) ≤ 9999
      omega
    · rw [if_neg hw]
      show (0 : Int) ≤ 0 ∧ (0 : Int) ≤ 9999
      decide
theorem rollA_rc {σ : zH} (w : WS σ) {s : Int} (hs : 0 ≤ s ∧ s < nS σ) : ∀ (f : Nat) {st : zH} {c sp k : Int}, WT σ st → st 1 s = c → 0 ≤ c ∧ c < nC σ → 0 ≤ sp ∧ sp + σ 1 c ≤ 999 → 0 ≤ k ∧ k + f ≤ 9999 → ∀ r ∈ (rollA σ f st s c sp k).2.1, rcOk σ r
  | 0, st, c, sp, k, wt, hc, hcc, hsp, hk => fun r hr => by cases hr
  | f + 1, st, c, sp, k, wt, hc, hcc, hsp, hk => by
    have hS0 : 0 ≤ nS σ := w.2.1.2.2.1
    have hS10 : nS σ ≤ 10 := w.2.1.2.2.2.1
    have hC := w.2.2.1 c hcc.1 hcc.2
    by_cases h1 : σ 2 c = -1
    · rw [rollA_no h1]; intro r hr; cases hr
    have hN : 0 ≤ σ 2 c ∧ σ 2 c < nC σ ∧ σ 3 c = σ 1 c - σ 1 (σ 2 c) ∧ 1 ≤ σ 3 c := by
      rcases hC.2.2 with z | z
      · exact absurd z.1 h1
      · exact z
    have hN1 := (w.2.2.1 _ hN.1 hN.2.1).1
    have hsp1 : 1 ≤ sp + σ 3 c ∧ sp + σ 3 c ≤ 999 := by omega
    clear hC
    by_cases h2 : sAt σ st (σ 2 c) = -1
    · obtain ⟨b1, b2, b3, b4, b5, b6, b7⟩ := stepB_ok (k := k) w wt hs ⟨hN.1, hN.2.1⟩ h2 hsp1
      have bv := stepB_v (s := s) (sp := sp + σ 3 c) (k := k) w wt ⟨hN.1, hN.2.1⟩
      have r0 : rcOk σ (stepB σ st s (σ 2 c) (sp + σ 3 c) k).2.1 := by
        unfold rcOk
        rw [b5.1, b5.2.1, b5.2.2]
        exact ⟨⟨hN.1, hN.2.1⟩, by omega, bv, by omega⟩
      by_cases h3 : (stepB σ st s (σ 2 c) (sp + σ 3 c) k).2.2 = 0
      · rw [rollA_end h1 h2 h3]
        intro r hr
        rw [List.mem_singleton.mp hr]; exact r0
      · rw [rollA_go h1 h2 h3]
        have hb2 : 1 ≤ (stepB σ st s (σ 2 c) (sp + σ 3 c) k).2.2 ∧ (stepB σ st s (σ 2 c) (sp + σ 3 c) k).2.2 ≤ sp + σ 3 c ∧ 2 ≤ (stepB σ st s (σ 2 c) (sp + σ 3 c) k).2.1.1 := by
          rcases b2 with z | z
          · exact absurd z h3
          · exact z
        have hbn : (stepB σ st s (σ 2 c) (sp + σ 3 c) k).1 1 s = σ 2 c := by
          rcases b4 with z | z
          · omega
          · exact z.2.2
        have ih := rollA_rc w hs f (k := k + 1) b1 hbn ⟨hN.1, hN.2.1⟩ (show 0 ≤ (stepB σ st s (σ 2 c) (sp + σ 3 c) k).2.2 ∧ (stepB σ st s (σ 2 c) (sp + σ 3 c) k).2.2 + σ 1 (σ 2 c) ≤ 999 by omega) (by omega)
        intro r hr
        rcases List.mem_cons.mp hr with z | z
        · rw [z]; exact r0
        · exact ih r z
    · rw [rollA_bar h1 h2]
      have hO := sAt_in hS0 h2
      intro r hr
      rw [List.mem_singleton.mp hr]
      exact ⟨⟨hN.1, hN.2.1⟩, show 0 ≤ sp + σ 3 c ∧ sp + σ 3 c ≤ 9999 by omega, show 0 ≤ sAt σ st (σ 2 c) ∧ sAt σ st (σ 2 c) ≤ 9999 by omega, show 0 ≤ k ∧ k ≤ 9999 by omega⟩
def trOk (σ : zH) (tr : zTr) : Prop := ∀ x ∈ tr, (0 ≤ x.1 ∧ x.1 < nS σ) ∧ (0 ≤ x.2.1 ∧ x.2.1 < nC σ) ∧ ∀ r ∈ x.2.2, rcOk σ r
theorem drvB_tr {σ : zH} (w : WS σ) : ∀ (f : Nat) {st : zH} {s : Int}, WT σ st → (s = -1 ∨ (0 ≤ s ∧ s < nS σ) ∧ st 1 s ≠ -1) → trOk σ (drvB σ f st s).2
  | 0, st, s, wt, _ => fun x hx => by cases hx
  | f + 1, st, s, wt, hs => by
    unfold drvB
    by_cases e : s = -1
    · rw [if_pos e]; intro x hx; cases hx
    · rw [if_neg e]
      have hs1 : (0 ≤ s ∧ s < nS σ) ∧ st 1 s ≠ -1 := by
        rcases hs with z | z
        · exact absurd z e
        · exact z
      have hc : 0 ≤ st 1 s ∧ st 1 s < nC σ := by
        rcases (wt.1 s hs1.1.1 hs1.1.2).1 with q | q
        · exact absurd q hs1.2
        · exact q
      have hH := (w.2.2.1 _ hc.1 hc.2).2.1
      obtain ⟨a1, -⟩ := rollS_ok w wt hs1.1 hs1.2
      have ih := drvB_tr w f a1 (pushed_ok (st := st) (s := s) w.2.1.2.2.1)
      intro x hx
      rcases List.mem_cons.mp hx with z | z
      · rw [z]
        exact ⟨hs1.1, hc, rollA_rc w hs1.1 60 wt.h2 (zset_o (by decide)) hc (by omega) (by decide)⟩
      · exact ih x z
theorem drv_tr {σ st : zH} (w : WS σ) (wt : WT σ st) {i p : Int} (hi : 0 ≤ i ∧ i < nS σ) : trOk σ (drv σ st i p).2 := drvB_tr w 10 wt (drv_in hi)
theorem trOk.app {σ : zH} {a b : zTr} (h1 : trOk σ a) (h2 : trOk σ b) : trOk σ (a ++ b) := fun x hx => by
  rcases List.mem_append.mp hx with z | z
  · exact h1 x z
  · exact h2 x z
theorem sprF_tr {σ : zH} (w : WS σ) {p : Int} {b : Bool} : ∀ (n : Nat) {i : Int} {st : zH}, WT σ st → 0 ≤ i → i + n ≤ nS σ → trOk σ (sprF σ p b n i st).2
  | 0, i, st, wt, _, _ => fun x hx => by cases hx
  | n + 1, i, st, wt, hi, hn => by
    unfold sprF
    have d1 := drv_ok w wt (i := i) (p := p) (by omega)
    have d2 := drv_tr w wt (i := i) (p := p) (by omega)
    by_cases e : (b && hasRu (drv σ st i p).2) = true
    · rw [if_pos e]; exact d2
    · rw [if_neg e]; exact d2.app (sprF_tr w n d1.1 (by omega) (by omega))
def evOk (σ : zH) (e : zEv) : Prop := (0 ≤ e.1 ∧ e.1 < nS σ) ∧ (-1 ≤ e.2.1 ∧ e.2.1 < nO σ) ∧ rcOk σ e.2.2
theorem trEv_ok {σ : zH} (w : WS σ) : ∀ {tr : zTr}, trOk σ tr → ∀ e ∈ trEv σ tr, evOk σ e
  | [], _, e, he => by cases he
  | x :: tr, ht, e, he => by
    rcases List.mem_append.mp he with z | z
    · obtain ⟨r, hr, rfl⟩ := List.mem_map.mp z
      obtain ⟨u1, u2, u3⟩ := ht x List.mem_cons_self
      have h6 := w.2.2.2.1 x.2.1 u2.1 u2.2
      exact ⟨u1, ⟨h6.2.2.2.2.1, h6.2.2.2.2.2.1⟩, u3 r hr⟩
    · exact trEv_ok w (fun y hy => ht y (List.mem_cons_of_mem _ hy)) e z
theorem ecl_mem {σ : zH} : ∀ {E : List zEv} {e : zEv}, e ∈ ecl σ E → e ∈ E ∧ eClaims σ e
  | [], e, he => by cases he
  | x :: E, e, he => by
    have he : e ∈ @ite _ (eClaims σ x) (Classical.propDecidable _) (x :: ecl σ E) (ecl σ E) := he
    by_cases c : eClaims σ x
    · rw [if_pos c] at he
      rcases List.mem_cons.mp he with z | z
      · rw [z]; exact ⟨List.mem_cons_self, c⟩
      · have := ecl_mem z; exact ⟨List.mem_cons_of_mem _ this.1, this.2⟩
    · rw [if_neg c] at he
      have := ecl_mem he; exact ⟨List.mem_cons_of_mem _ this.1, this.2⟩
theorem due1_pre {Λ : zLw} {σ : zH} {Δ : zDu} {e : zEv} : Δ.2 <+: (due1 Λ σ Δ e).2 := by
  unfold due1
  by_cases c : dueN Λ σ e = 0
  · rw [if_pos c]; exact List.prefix_refl _
  · rw [if_neg c]
    show Δ.2 <+: (if Δ.2.length = 99 then Δ.2 else Δ.2 ++ _)
    by_cases c2 : Δ.2.length = 99
    · rw [if_pos c2]; exact List.prefix_refl _
    · rw [if_neg c2]; exact List.prefix_append _ _
theorem dueF_pre {Λ : zLw} {σ : zH} : ∀ (l : List zEv) (Δ : zDu), Δ.2 <+: (dueF Λ σ Δ l).2
  | [], Δ => List.prefix_refl _
  | e :: l, Δ => due1_pre.trans (dueF_pre l (due1 Λ σ Δ e))
