/-! which stone lies in a cell -/
theorem sAt_spec (σ st : zH) (c : Int) (hS : 0 ≤ nS σ) : (sAt σ st c = -1 ∧ ∀ i, 0 ≤ i → i < nS σ → st 1 i ≠ c) ∨ (0 ≤ sAt σ st c ∧ sAt σ st c < nS σ ∧ st 1 (sAt σ st c) = c) := by
  rcases zfs_spec (fun i => decide (st 1 i = c)) (nS σ).toNat 0 with ⟨h1, h2⟩ | ⟨h1, h2, h3, -⟩
  · exact Or.inl ⟨h1, fun i a b => of_decide_eq_false (h2 i a (by omega))⟩
  · exact Or.inr ⟨h1, by unfold sAt; omega, of_decide_eq_true h3⟩
theorem sAt_of {σ st : zH} {c i : Int} (hS : 0 ≤ nS σ) (hi : 0 ≤ i ∧ i < nS σ) (hc : st 1 i = c) (hd : ∀ j, 0 ≤ j → j < nS σ → st 1 j = c → j = i) : sAt σ st c = i := by
  rcases sAt_spec σ st c hS with ⟨-, h2⟩ | ⟨h1, h2, h3⟩
  · exact absurd hc (h2 i hi.1 hi.2)
  · exact hd _ h1 h2 h3
theorem sAt_no {σ st : zH} {c : Int} (hS : 0 ≤ nS σ) (hd : ∀ j, 0 ≤ j → j < nS σ → st 1 j ≠ c) : sAt σ st c = -1 := by
  rcases sAt_spec σ st c hS with ⟨h1, -⟩ | ⟨h1, h2, h3⟩
  · exact h1
  · exact absurd h3 (hd _ h1 h2)
theorem sAt_free {σ st : zH} {c i : Int} (hS : 0 ≤ nS σ) (h : sAt σ st c = -1) (hi : 0 ≤ i ∧ i < nS σ) : st 1 i ≠ c := by
  rcases sAt_spec σ st c hS with ⟨-, h2⟩ | ⟨h1, h2, h3⟩
  · exact h2 i hi.1 hi.2
  · omega
theorem sAt_in {σ st : zH} {c : Int} (hS : 0 ≤ nS σ) (h : sAt σ st c ≠ -1) : 0 ≤ sAt σ st c ∧ sAt σ st c < nS σ ∧ st 1 (sAt σ st c) = c := by
  rcases sAt_spec σ st c hS with ⟨h1, -⟩ | h1
  · exact absurd h1 h
  · exact h1
theorem sAt_cg {σ a b : zH} (h : ∀ i, 0 ≤ i → i < nS σ → a 1 i = b 1 i) (c : Int) (hS : 0 ≤ nS σ) : sAt σ a c = sAt σ b c := by
  unfold sAt
  have : ∀ (n : Nat) (i : Int), 0 ≤ i → i + n ≤ nS σ → zfs (fun i => decide (a 1 i = c)) n i = zfs (fun i => decide (b 1 i = c)) n i := by
    intro n
    induction n with
    | zero => intro i _ _; rfl
    | succ n ih =>
      intro i h1 h2
      unfold zfs
      rw [h i h1 (by omega), ih (i + 1) (by omega) (by omega)]
  exact this _ 0 (by omega) (by omega)
theorem come_1 {st : zH} {s n i : Int} : come st s n 1 i = if i = s then n else st 1 i := by
  unfold come
  rw [zset_o (by omega), zset_x]
  by_cases e : i = s
  · rw [if_pos ⟨rfl, e⟩, if_pos e]
  · rw [if_neg (fun q => e q.2), if_neg e]
theorem come_3 {st : zH} {s n i : Int} : come st s n 3 i = if i = s then st 3 s + 1 else st 3 i := by
  unfold come
  rw [zset_x]
  by_cases e : i = s
  · rw [if_pos ⟨rfl, e⟩, if_pos e]
  · rw [if_neg (fun q => e q.2), if_neg e, zset_o (by omega)]
theorem come_o {st : zH} {s n k i : Int} (h1 : ¬ k = 1) (h3 : ¬ k = 3) : come st s n k i = st k i := by
  unfold come
  rw [zset_o h3, zset_o h1]
theorem sAt_come {σ st : zH} (w : WS σ) (t : WT σ st) {s n : Int} (hs : 0 ≤ s ∧ s < nS σ) (hl : st 1 s ≠ -1) (hn : 0 ≤ n) (hf : sAt σ st n = -1) {c : Int} (hc : 0 ≤ c) : sAt σ (come st s n) c = if c = n then s else if c = st 1 s then -1 else sAt σ st c := by
  have hS : 0 ≤ nS σ := w.2.1.2.2.1
  by_cases e1 : c = n
  · rw [if_pos e1]
    refine sAt_of hS hs (by rw [come_1, if_pos rfl]; exact e1.symm) (fun j j1 j2 j3 => ?_)
    rw [come_1] at j3
    by_cases e2 : j = s
    · exact e2
    · rw [if_neg e2, e1] at j3
      exact absurd j3 (sAt_free hS hf ⟨j1, j2⟩)
  · rw [if_neg e1]
    by_cases e2 : c = st 1 s
    · rw [if_pos e2]
      refine sAt_no hS (fun j j1 j2 j3 => ?_)
      rw [come_1] at j3
      by_cases e3 : j = s
      · rw [if_pos e3] at j3; omega
      · rw [if_neg e3, e2] at j3
        rcases (t.1 s hs.1 hs.2).2 j j1 j2 j3 with q | q
        · exact hl q
        · exact e3 q
    · rw [if_neg e2]
      rcases sAt_spec σ st c hS with ⟨h1, h2⟩ | ⟨h1, h2, h3⟩
      · rw [h1]
        refine sAt_no hS (fun j j1 j2 j3 => ?_)
        rw [come_1] at j3
        by_cases e3 : j = s
        · rw [if_pos e3] at j3; omega
        · rw [if_neg e3] at j3; exact h2 j j1 j2 j3
      · have e4 : sAt σ st c ≠ s := fun q => by rw [q] at h3; omega
        refine sAt_of hS ⟨h1, h2⟩ (by rw [come_1, if_neg e4]; exact h3) (fun j j1 j2 j3 => ?_)
        rw [come_1] at j3
        by_cases e3 : j = s
        · rw [if_pos e3] at j3; omega
        · rw [if_neg e3] at j3
          rcases (t.1 _ h1 h2).2 j j1 j2 (j3.trans h3.symm) with q | q
          · omega
          · exact q
theorem WT.come {σ st : zH} (t : WT σ st) {s n : Int} (hn : 0 ≤ n ∧ n < nC σ) (hf : ∀ i, 0 ≤ i → i < nS σ → st 1 i ≠ n) : WT σ (come st s n) := by
  refine ⟨fun i i1 i2 => ⟨?_, fun j j1 j2 j3 => ?_⟩, fun c c1 c2 => ?_, fun i i1 i2 => ?_⟩
  · rw [come_1]
    split
    · exact Or.inr hn
    · exact (t.1 i i1 i2).1
  · rw [come_1, come_1] at j3
    rw [come_1]
    by_cases e1 : j = s
    · rw [if_pos e1] at j3
      by_cases e2 : i = s
      · exact Or.inr (by omega)
      · rw [if_neg e2] at j3
        exact absurd j3.symm (hf i i1 i2)
    · rw [if_neg e1] at j3
      by_cases e2 : i = s
      · rw [if_pos e2] at j3
        exact absurd j3 (hf j j1 j2)
      · rw [if_neg e2] at j3 ⊢
        exact (t.1 i i1 i2).2 j j1 j2 j3
  · have := t.2.1 c c1 c2
    rw [come_o (by omega) (by omega), come_o (by omega) (by omega), come_o (by omega) (by omega), come_o (by omega) (by omega)]
    exact this
  · rw [come_o (by omega) (by omega)]
    exact t.2.2 i i1 i2
/-- where a mover lies -/
def MA (m : Int) : Prop := m = 328 ∨ m = 332 ∨ m = 344
theorem MA.ap {m T : Int} (hm : MA m) (hT : SA T) : T + 8 ≤ m ∨ m + 3 ≤ T := by unfold MA at hm; unfold SA at hT; omega
theorem MA.low {m : Int} (hm : MA m) : 328 ≤ m ∧ m ≤ 344 := by unfold MA at hm; omega
theorem q_comeInto {d : Nat} {σ st : zH} {T m s n : Int} {h : zH} (w : WS σ) (t : CT σ st T h) (wt : WT σ st) (hm : MA m) (eT : h m 12 = T) (es : h m 14 = s) (hs : 0 ≤ s ∧ s < nS σ) (hl : st 1 s ≠ -1) (hn : 0 ≤ n ∧ n < nC σ) (hf : sAt σ st n = -1) (hp : h m 13 = 0 ∨ 0 ≤ h m 1 ∧ h m 1 < 60) :
    ∃ h', m_Mover_comeInto (d + 1) m n h = some (.inl 0, h') ∧ CT σ (come st s n) T h' ∧ (∀ r, ¬ (r = T + 1 ∨ r = T + 3 ∨ r = T + 4 ∨ r = m ∨ r = m + 1) → h' r = h r) ∧ (∀ k, ¬ (k = 1 ∨ k = 8 ∨ k = 16) → h' m k = h m k) ∧ h' m 16 = w32 (h m 16 + 1) ∧ h' m 8 = zlor (h m 8) (zlshl 1 n) ∧ (h m 13 = 0 → h' m 1 = h m 1 ∧ h' (m + 1) = h (m + 1)) ∧ (h m 13 ≠ 0 → h' m 1 = h m 1 + 1 ∧ ∀ i, h' (m + 1) i = if i = h m 1 then n else h (m + 1) i) := by
  have hT := t.1.low
  have hap := hm.ap t.1
  have hml := hm.low
  have hnn := w.n
  have hmm := w.2.1
  have hc : 0 ≤ st 1 s ∧ st 1 s < nC σ := by
    rcases (wt.1 s hs.1 hs.2).1 with q | q
    · exact absurd q hl
    · exact q
  have e1 : h (T + 1) s = st 1 s := t.pl (by omega)
  have z0 : 0 ≤ m := by omega
  have z1 : 0 ≤ T := by omega
  have z2 : 0 ≤ T + 1 := by omega
  have z3 : 0 ≤ T + 3 := by omega
  have z4 : 0 ≤ T + 4 := by omega
  have z5 : 0 ≤ m + 1 := by omega
  have n1 : ¬ m = T + 1 := by omega
  have n3 : ¬ m = T + 3 := by omega
  have n4 : ¬ m = T + 4 := by omega
  have n5 : ¬ T + 3 = T + 1 := by omega
  have n6 : ¬ T + 3 = T + 4 := by omega
  have n7 : ¬ T + 1 = T + 4 := by omega
  have n8 : ¬ m = m + 1 := by omega
  have b1 : 0 ≤ s ∧ s < ((10 : Nat) : Int) := by omega
  have b2 : 0 ≤ st 1 s ∧ st 1 s < ((60 : Nat) : Int) := by omega
  have b3 : 0 ≤ n ∧ n < ((60 : Nat) : Int) := by omega
  rw [em_Mover_comeInto]
  simp (disch := first | assumption | decide) only [↓zlt_e, zpo_t, zit_t, zset_o, zset_j, eT, es, e1]
  obtain ⟨H, hH⟩ : ∃ H : zH, H = zset (zset (zset (zset (zset (zset h (T + 4) (st 1 s) (-1)) (T + 4) n s) (T + 1) s n) (T + 3) s (w32 (h (T + 3) s + 1))) m 16 (w32 (h m 16 + 1))) m 8 (zlor (h m 8) (zlshl 1 n)) := ⟨_, rfl⟩
  rw [← hH]
  have fr : ∀ r, ¬ (r = T + 1 ∨ r = T + 3 ∨ r = T + 4 ∨ r = m) → H r = h r := fun r hr => by
    rw [hH, zset_n (by omega), zset_n (by omega), zset_n (by omega), zset_n (by omega), zset_n (by omega), zset_n (by omega)]
  have fm : ∀ k, ¬ (k = 8 ∨ k = 16) → H m k = h m k := fun k hk => by
    rw [hH, zset_j (by omega), zset_j (by omega), zset_o n3, zset_o n1, zset_o n4, zset_o n4]
  have f16 : H m 16 = w32 (h m 16 + 1) := by rw [hH, zset_j (by omega), zset_e]
  have f8 : H m 8 = zlor (h m 8) (zlshl 1 n) := by rw [hH, zset_e]
  have c6 : CT σ (come st s n) T H := by
    refine ⟨t.1, fun i i1 i2 => ⟨?_, ?_, ?_⟩, fun c c1 c2 => ?_, fun c c1 c2 => ⟨?_, ?_⟩, fun o o1 o2 => ?_, ?_, ?_, ?_⟩
    · rw [hH, come_1, zset_o (by omega), zset_o (by omega), zset_o (by omega), zset_g, zset_o (by omega), zset_o (by omega), t.pl ⟨i1, i2⟩]
    · rw [fr _ (by omega), t.rl ⟨i1, i2⟩, come_o (by omega) (by omega)]
    · rw [hH, come_3, zset_o (by omega), zset_o (by omega), zset_g, zset_o (by omega), zset_o (by omega), zset_o (by omega), t.cm ⟨i1, i2⟩, t.cm (i := s) (by omega)]
      split
      · unfold w32; omega
      · rfl
    · rw [hH, zset_o (by omega), zset_o (by omega), zset_o (by omega), zset_o (by omega), zset_g, zset_g, sAt_come w wt hs hl hn.1 hf c1, t.at ⟨c1, c2⟩]
    · rw [fr _ (by omega), t.ho ⟨c1, c2⟩, come_o (by omega) (by omega)]
    · rw [fr _ (by omega), t.ro ⟨c1, c2⟩, come_o (by omega) (by omega)]
    · rw [fr _ (by omega), t.ba ⟨o1, o2⟩, come_o (by omega) (by omega)]
    · rw [fr T (by omega)]
      obtain ⟨N, a1, a2, a3⟩ := t.2.2.2.2.2.1
      exact ⟨N, a1, a2, fun i => by rw [come_o (by omega) (by omega)]; exact a3 i⟩
    · rw [fr T (by omega)]
      obtain ⟨N, a1, a2, a3⟩ := t.2.2.2.2.2.2.1
      exact ⟨N, a1, a2, fun i => by rw [come_o (by omega) (by omega)]; exact a3 i⟩
    · rw [fr T (by omega), come_o (by omega) (by omega)]; exact t.2.2.2.2.2.2.2
  by_cases f1 : h m 13 = 0
  · rw [if_pos f1]
    exact ⟨H, rfl, c6, fun r hr => fr r (by omega), fun k hk => fm k (by omega), f16, f8, fun _ => ⟨fm 1 (by omega), fr _ (by omega)⟩, fun q => absurd f1 q⟩
  · have hp1 : 0 ≤ h m 1 ∧ h m 1 < 60 := by
      rcases hp with q | q
      · exact absurd q f1
      · exact q
    rw [if_neg f1, if_pos hp1.2, if_pos (by omega)]
    refine ⟨_, rfl, c6.fr (fun r r1 r2 => ?_), fun r hr => ?_, fun k hk => ?_, ?_, ?_, fun q => absurd q f1, fun _ => ⟨?_, fun i => ?_⟩⟩
    · rw [zset_n (by omega), zset_n (by omega)]
    · rw [zset_n (by omega), zset_n (by omega)]; exact fr r (by omega)
    · rw [zset_j (by omega), zset_o n8]; exact fm k (by omega)
    · rw [zset_j (by omega), zset_o n8]; exact f16
    · rw [zset_j (by omega), zset_o n8]; exact f8
    · rw [zset_e, w32_i (by omega)]
    · rw [zset_o (by omega), zset_g, fr _ (by omega)]
