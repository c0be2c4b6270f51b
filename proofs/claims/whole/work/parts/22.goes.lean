/-! a stone at the next cell -/
theorem sAt_5 {σ st : zH} {k n v c : Int} (hk : ¬ k = 1) (hS : 0 ≤ nS σ) : sAt σ (zset st k n v) c = sAt σ st c := sAt_cg (fun i _ _ => zset_o (by omega)) c hS
theorem CT.h5 {σ st : zH} (w : WS σ) {T : Int} {h : zH} (t : CT σ st T h) {n v : Int} : CT σ (zset st 5 n v) T (zset h (T + 5) n v) := by
  obtain ⟨c0, c1, c2, c3, c4, c5, c6, c7⟩ := t
  refine ⟨c0, fun i a b => ?_, fun i a b => ?_, fun i a b => ?_, fun i a b => ?_, ?_, ?_, ?_⟩
  · rw [zset_o (by omega), zset_o (by omega), zset_o (by omega), zset_o (by omega), zset_o (by omega), zset_o (by omega)]; exact c1 i a b
  · rw [zset_o (by omega), sAt_5 (by omega) w.2.1.2.2.1]; exact c2 i a b
  · rw [zset_g, zset_g, zset_o (by omega), zset_o (by omega)]
    refine ⟨?_, (c3 i a b).2⟩
    split
    · rfl
    · exact (c3 i a b).1
  · rw [zset_o (by omega), zset_o (by omega)]; exact c4 i a b
  · rw [zset_o (by omega)]
    obtain ⟨N, a1, a2, a3⟩ := c5
    exact ⟨N, a1, a2, fun i => by rw [zset_o (by omega)]; exact a3 i⟩
  · rw [zset_o (by omega)]
    obtain ⟨N, a1, a2, a3⟩ := c6
    exact ⟨N, a1, a2, fun i => by rw [zset_o (by omega)]; exact a3 i⟩
  · rw [zset_o (by omega), zset_o (by omega)]; exact c7
theorem CT.h9 {σ st : zH} (w : WS σ) {T : Int} {h : zH} (t : CT σ st T h) {k : Int} (hk : 0 ≤ k ∧ k < 8) : CT σ (zset st 9 k 1) T (zset h T 8 (zor (h T 8) (zshl 1 k))) := by
  obtain ⟨c0, c1, c2, c3, c4, c5, c6, c7⟩ := t
  refine ⟨c0, fun i a b => ?_, fun i a b => ?_, fun i a b => ?_, fun i a b => ?_, ?_, ?_, ?_⟩
  · rw [zset_o (by omega), zset_o (by omega), zset_o (by omega), zset_o (by omega), zset_o (by omega), zset_o (by omega)]; exact c1 i a b
  · rw [zset_o (by omega), sAt_5 (by omega) w.2.1.2.2.1]; exact c2 i a b
  · rw [zset_o (by omega), zset_o (by omega), zset_o (by omega), zset_o (by omega)]; exact c3 i a b
  · rw [zset_o (by omega), zset_o (by omega)]; exact c4 i a b
  · rw [zset_j (by omega)]
    obtain ⟨N, a1, a2, a3⟩ := c5
    exact ⟨N, a1, a2, fun i => by rw [zset_o (by omega)]; exact a3 i⟩
  · rw [zset_e]
    obtain ⟨N, a1, a2, a3⟩ := c6
    obtain ⟨j, rfl⟩ := Int.eq_ofNat_of_zero_le hk.1
    have hj : j < 8 := by omega
    have h2 : 2 ^ j < 2 ^ 8 := Nat.pow_lt_pow_right (by omega) hj
    refine ⟨N ||| 2 ^ j, ?_, Nat.or_lt_two_pow a2 h2, fun i => ?_⟩
    · rw [a1, show (1 : Int) = ((1 : Nat) : Int) from rfl, zshl_n (by omega) (by omega), Nat.one_mul, zor_n (by omega) (by omega)]
    · rw [Nat.testBit_or, a3 i, Nat.testBit_two_pow, zset_g]
      by_cases e : j = i
      · subst e
        rw [if_pos rfl]
        simp [hj]
      · rw [if_neg (by omega)]
        simp [e]
  · rw [zset_j (by omega), zset_o (by omega)]; exact c7
theorem q_goes207 {d : Nat} {σ st : zH} {T m s n sp : Int} {h : zH} (w : WS σ) (t : CT σ st T h) (wt : WT σ st) (hm : MA m) (eT : h m 12 = T) (es : h m 14 = s) (esp : h m 15 = sp) (hsp : 0 ≤ sp ∧ sp ≤ 1000000) (hs : 0 ≤ s ∧ s < nS σ) (hl : st 1 s ≠ -1) (hn : 0 ≤ n ∧ n < nC σ) (hf : sAt σ st n = -1) (hp : h m 13 = 0 ∨ 0 ≤ h m 1 ∧ h m 1 < 60) :
    zWp (l_Mover_goesOnFrom_207 (d + 1) m n h) (fun v h' => v = .inl (if contS (come st s n) n sp = 0 then 0 else 1) ∧ CT σ (come st s n) T h' ∧ (contS (come st s n) n sp ≠ 0 → h' m 15 = contS (come st s n) n sp) ∧ (∀ r, ¬ (r = T + 1 ∨ r = T + 3 ∨ r = T + 4 ∨ r = m ∨ r = m + 1) → h' r = h r) ∧ (∀ k, ¬ (k = 1 ∨ k = 8 ∨ k = 15 ∨ k = 16) → h' m k = h m k) ∧ h' m 16 = w32 (h m 16 + 1) ∧ h' m 8 = zlor (h m 8) (zlshl 1 n) ∧ (h m 13 = 0 → h' m 1 = h m 1 ∧ h' (m + 1) = h (m + 1)) ∧ (h m 13 ≠ 0 → h' m 1 = h m 1 + 1 ∧ ∀ i, h' (m + 1) i = if i = h m 1 then n else h (m + 1) i)) := by
  have hT := t.1.low
  have hap := hm.ap t.1
  have hml := hm.low
  have hnn := w.n
  rw [el_Mover_goesOnFrom_207]
  obtain ⟨h1, e1, c1, fr1, fm1, f16, f8, pa, pb⟩ := q_comeInto (d := d) w t wt hm eT es hs hl hn hf hp
  have wt1 : WT σ (come st s n) := wt.come hn (fun i a b => sAt_free w.2.1.2.2.1 hf ⟨a, b⟩)
  refine zWp_po (by omega) (zWp_qv e1 ?_)
  have eT1 : h1 m 12 = T := (fm1 12 (by omega)).trans eT
  have es1 : h1 m 15 = sp := (fm1 15 (by omega)).trans esp
  have er1 : h1 (T + 6) n = come st s n 6 n := c1.ro (by omega)
  have hw := wt1.2.1 n hn.1 hn.2
  refine zWp_po (by omega) (zWp_po (by omega) ?_)
  rw [eT1]
  refine zWp_qi (q_hasNet c1 (by omega)) ?_
  by_cases e8 : come st s n 8 n = 1
  · have ec : contS (come st s n) n sp = 0 := by unfold contS; rw [if_pos e8]
    rw [if_pos e8, ec]
    refine zWp_nt (by omega) (zWp_s ⟨rfl, c1, fun q => absurd rfl q, fr1, fun k hk => fm1 k (by omega), f16, f8, pa, pb⟩)
  · have ec : contS (come st s n) n sp = if 0 < sp - come st s n 6 n then sp - come st s n 6 n else 0 := by unfold contS; rw [if_neg e8]
    rw [if_neg e8, ec]
    simp only [eT1, es1, er1]
    refine zWp_it trivial (zWp_po (by omega) (zWp_po (by omega) (zWp_po (by omega) (zWp_po (by omega) (zWp_it (by omega) (zWp_po (by omega) (zWp_lt fun h2 e2 => zWp_po (by omega) ?_)))))))
    have hw2 : h2 m 15 = sp - come st s n 6 n := by rw [e2, zset_e, w32_i (by omega)]
    rw [hw2]
    have cc : CT σ (come st s n) T h2 := c1.fr (fun r r1 r2 => by rw [e2, zset_n (by omega)])
    have fr2 : ∀ r, ¬ r = m → h2 r = h1 r := fun r hr => by rw [e2, zset_n hr]
    have fm2 : ∀ k, ¬ k = 15 → h2 m k = h1 m k := fun k hk => by rw [e2, zset_j hk]
    have F1 : ∀ r, ¬ (r = T + 1 ∨ r = T + 3 ∨ r = T + 4 ∨ r = m ∨ r = m + 1) → h2 r = h r := fun r hr => by rw [fr2 r (by omega), fr1 r hr]
    have F2 : ∀ k, ¬ (k = 1 ∨ k = 8 ∨ k = 15 ∨ k = 16) → h2 m k = h m k := fun k hk => by rw [fm2 k (by omega), fm1 k (by omega)]
    have F3 : h2 m 16 = w32 (h m 16 + 1) := by rw [fm2 16 (by omega), f16]
    have F4 : h2 m 8 = zlor (h m 8) (zlshl 1 n) := by rw [fm2 8 (by omega), f8]
    have F5 : h m 13 = 0 → h2 m 1 = h m 1 ∧ h2 (m + 1) = h (m + 1) := fun q => by rw [fm2 1 (by omega), fr2 _ (by omega)]; exact pa q
    have F6 : h m 13 ≠ 0 → h2 m 1 = h m 1 + 1 ∧ ∀ i, h2 (m + 1) i = if i = h m 1 then n else h (m + 1) i := fun q => by rw [fm2 1 (by omega), fr2 _ (by omega)]; exact pb q
    refine zWp_if (fun q => ?_) (fun q => ?_)
    · rw [if_pos q]
      exact zWp_s ⟨by rw [if_neg (by omega)], cc, fun _ => hw2, F1, F2, F3, F4, F5, F6⟩
    · rw [if_neg q]
      exact zWp_s ⟨rfl, cc, fun z => absurd rfl z, F1, F2, F3, F4, F5, F6⟩
