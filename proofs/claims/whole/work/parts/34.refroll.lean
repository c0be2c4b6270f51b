/-! what the reference changes in a roll over version v -/
def frR (v : Int) (h h' : zH) : Prop :=
  (∀ r, ¬ (r = 403 ∨ r = 444 ∨ r = 445 ∨ r = 446 ∨ r = 447 ∨ r = 448 ∨ r = 456) → ¬ (v = 0 ∧ (r = 442 ∨ r = 443 ∨ r = 451 ∨ r = 452 ∨ r = 453)) → h' r = h r) ∧
  (∀ q, ¬ (q = 73 ∨ q = 74 ∨ q = 75 ∨ q = 76 ∨ q = 77 ∨ q = 79 ∨ q = 80) → h' 403 q = h 403 q) ∧
  (∀ i, ¬ (10 * v ≤ i ∧ i < 10 * v + 10) → h' 444 i = h 444 i ∧ h' 445 i = h 445 i ∧ h' 446 i = h 446 i) ∧
  (∀ i, ¬ (8 * v ≤ i ∧ i < 8 * v + 8) → h' 447 i = h 447 i) ∧ (∀ i, ¬ (60 * v ≤ i ∧ i < 60 * v + 60) → h' 448 i = h 448 i)
theorem frR.rf {v : Int} (h : zH) : frR v h h := ⟨fun _ _ _ => rfl, fun _ _ => rfl, fun _ _ => ⟨rfl, rfl, rfl⟩, fun _ _ => rfl, fun _ _ => rfl⟩
theorem frR.t {v : Int} {a b c : zH} (h1 : frR v a b) (h2 : frR v b c) : frR v a c :=
  ⟨fun r x y => (h2.1 r x y).trans (h1.1 r x y), fun q x => (h2.2.1 q x).trans (h1.2.1 q x), fun i x => ⟨(h2.2.2.1 i x).1.trans (h1.2.2.1 i x).1, (h2.2.2.1 i x).2.1.trans (h1.2.2.1 i x).2.1, (h2.2.2.1 i x).2.2.trans (h1.2.2.1 i x).2.2⟩, fun i x => (h2.2.2.2.1 i x).trans (h1.2.2.2.1 i x), fun i x => (h2.2.2.2.2 i x).trans (h1.2.2.2.2 i x)⟩
/-- a store into one of the reference's own rows of version v -/
theorem frR.s {v : Int} {h : zH} {r j x : Int} (hr : r = 403 ∧ (j = 73 ∨ j = 74 ∨ j = 75 ∨ j = 76 ∨ j = 77 ∨ j = 79 ∨ j = 80) ∨ (r = 444 ∨ r = 445 ∨ r = 446) ∧ (10 * v ≤ j ∧ j < 10 * v + 10) ∨ r = 447 ∧ (8 * v ≤ j ∧ j < 8 * v + 8) ∨ r = 448 ∧ (60 * v ≤ j ∧ j < 60 * v + 60) ∨ r = 456) : frR v h (zset h r j x) := by
  refine ⟨fun a h1 h2 => zset_n (fun z => ?_), fun q hq => zset_2 (fun z => ?_), fun i hi => ⟨zset_2 (fun z => ?_), zset_2 (fun z => ?_), zset_2 (fun z => ?_)⟩, fun i hi => zset_2 (fun z => ?_), fun i hi => zset_2 (fun z => ?_)⟩
  · rcases hr with q | q | q | q | q <;> omega
  · rcases hr with q | q | q | q | q <;> omega
  · rcases hr with q | q | q | q | q <;> omega
  · rcases hr with q | q | q | q | q <;> omega
  · rcases hr with q | q | q | q | q <;> omega
  · rcases hr with q | q | q | q | q <;> omega
  · rcases hr with q | q | q | q | q <;> omega
theorem RS.r {σ : zH} {v : Int} {h h' : zH} (g : RS σ h) (f : frR v h h') : RS σ h' := g.fr (f.2.1 12 (by decide)) (fun r h1 h2 => f.1 r (by omega) (by omega))
theorem RT.cm {σ st : zH} (w : WS σ) {v : Int} {h : zH} (t : RT σ st v h) {s n : Int} (hs : 0 ≤ s ∧ s < nS σ) : RT σ (come st s n) v (zset (zset h 444 (10 * v + s) n) 446 (10 * v + s) (w32 (h 446 (10 * v + s) + 1))) := by
  obtain ⟨t0, t1, t2, t3⟩ := t
  refine ⟨t0, fun i a b => ⟨?_, ?_, ?_⟩, fun i a b => ?_, fun i a b => ⟨?_, ?_, ?_⟩⟩
  · rw [zset_o (by decide), zset_g, come_1, (t1 i a b).1]
    by_cases e : i = s
    · rw [if_pos (by omega), if_pos e]
    · rw [if_neg (by omega), if_neg e]
  · rw [zset_o (by decide), zset_o (by decide), come_o (by decide) (by decide)]; exact (t1 i a b).2.1
  · rw [zset_g, zset_o (by decide), come_3, (t1 i a b).2.2, (t1 s hs.1 hs.2).2.2]
    by_cases e : i = s
    · rw [if_pos (by omega), if_pos e, w32_a]
    · rw [if_neg (by omega), if_neg e]
  · rw [zset_o (by decide), zset_o (by decide), come_o (by decide) (by decide)]; exact t2 i a b
  · rw [zset_o (by decide), zset_o (by decide), come_o (by decide) (by decide)]; exact (t3 i a b).1
  · rw [zset_o (by decide), zset_o (by decide), come_o (by decide) (by decide)]; exact (t3 i a b).2.1
  · rw [zset_o (by decide), zset_o (by decide), come_o (by decide) (by decide)]; exact (t3 i a b).2.2
theorem RT.h5 {σ st : zH} {v : Int} {h : zH} (t : RT σ st v h) {n x : Int} : RT σ (zset st 5 n x) v (zset h 448 (60 * v + n) x) := by
  obtain ⟨t0, t1, t2, t3⟩ := t
  refine ⟨t0, fun i a b => ⟨?_, ?_, ?_⟩, fun i a b => ?_, fun i a b => ⟨?_, ?_, ?_⟩⟩
  · rw [zset_o (by decide), zset_o (by decide)]; exact (t1 i a b).1
  · rw [zset_o (by decide), zset_o (by decide)]; exact (t1 i a b).2.1
  · rw [zset_o (by decide), zset_o (by decide)]; exact (t1 i a b).2.2
  · rw [zset_o (by decide), zset_o (by decide)]; exact t2 i a b
  · rw [zset_g, zset_g, (t3 i a b).1]
    by_cases e : i = n
    · rw [if_pos (by omega), if_pos e]
    · rw [if_neg (by omega), if_neg e]
  · rw [zset_o (by decide), zset_o (by decide)]; exact (t3 i a b).2.1
  · rw [zset_o (by decide), zset_o (by decide)]; exact (t3 i a b).2.2
theorem RT.h9 {σ st : zH} {v : Int} {h : zH} (t : RT σ st v h) {n x : Int} : RT σ (zset st 9 n x) v (zset h 447 (8 * v + n) x) := by
  obtain ⟨t0, t1, t2, t3⟩ := t
  refine ⟨t0, fun i a b => ⟨?_, ?_, ?_⟩, fun i a b => ?_, fun i a b => ⟨?_, ?_, ?_⟩⟩
  · rw [zset_o (by decide), zset_o (by decide)]; exact (t1 i a b).1
  · rw [zset_o (by decide), zset_o (by decide)]; exact (t1 i a b).2.1
  · rw [zset_o (by decide), zset_o (by decide)]; exact (t1 i a b).2.2
  · rw [zset_g, zset_g, t2 i a b]
    by_cases e : i = n
    · rw [if_pos (by omega), if_pos e]
    · rw [if_neg (by omega), if_neg e]
  · rw [zset_o (by decide), zset_o (by decide)]; exact (t3 i a b).1
  · rw [zset_o (by decide), zset_o (by decide)]; exact (t3 i a b).2.1
  · rw [zset_o (by decide), zset_o (by decide)]; exact (t3 i a b).2.2
theorem RT.h2 {σ st : zH} {v : Int} {h : zH} (t : RT σ st v h) {s : Int} (hs : 0 ≤ s ∧ s < nS σ) : RT σ (zset st 2 s (st 2 s + 1)) v (zset h 445 (10 * v + s) (w32 (h 445 (10 * v + s) + 1))) := by
  obtain ⟨t0, t1, t2, t3⟩ := t
  refine ⟨t0, fun i a b => ⟨?_, ?_, ?_⟩, fun i a b => ?_, fun i a b => ⟨?_, ?_, ?_⟩⟩
  · rw [zset_o (by decide), zset_o (by decide)]; exact (t1 i a b).1
  · rw [zset_g, zset_g, (t1 i a b).2.1, (t1 s hs.1 hs.2).2.1]
    by_cases e : i = s
    · rw [if_pos (by omega), if_pos e, w32_a]
    · rw [if_neg (by omega), if_neg e]
  · rw [zset_o (by decide), zset_o (by decide)]; exact (t1 i a b).2.2
  · rw [zset_o (by decide), zset_o (by decide)]; exact t2 i a b
  · rw [zset_o (by decide), zset_o (by decide)]; exact (t3 i a b).1
  · rw [zset_o (by decide), zset_o (by decide)]; exact (t3 i a b).2.1
  · rw [zset_o (by decide), zset_o (by decide)]; exact (t3 i a b).2.2
/-- the way: cells into which stones have come -/
def RW (W : List Int) (h : zH) : Prop := h 403 79 = W.length ∧ ∀ (j : Nat) (x : Int), j < 60 → W[j]? = some x → h 456 j = x
theorem RW.fr {W : List Int} {h h' : zH} (r : RW W h) (e1 : h' 403 79 = h 403 79) (e2 : h' 456 = h 456) : RW W h' := by unfold RW; rw [e1, e2]; exact r
/-- it comes into cell n -/
theorem q_R358 {d : Nat} {σ st : zH} {v s x4 x5 sp k n hs : Int} {h : zH} {W : List Int} (w : WS σ) (g : RS σ h) (t : RT σ st v h) (wt : WT σ st) (hst : 0 ≤ s ∧ s < nS σ) (hn : 0 ≤ n ∧ n < nC σ) (hf : sAt σ st n = -1) (hsp : 0 ≤ sp ∧ sp ≤ 1000000) (hW : (W.length : Int) ≤ 1000000) (rw : RW W h) {Q : zV → zH → Prop}
    (K : ∀ h', RT σ (come st s n) v h' → RS σ h' → frR v h h' → (∀ r, ¬ (r = 403 ∨ r = 444 ∨ r = 446 ∨ r = 456) → h' r = h r) → RW (W ++ [n]) h' → (∀ q, ¬ q = 79 → h' 403 q = h 403 q) → (¬ (hs = -1) ∨ contS (come st s n) n sp = 0 → Q (.inl (-1)) h') ∧ (hs = -1 ∧ ¬ contS (come st s n) n sp = 0 → zWp (l_R_rolling_62 d v s n x4 x5 (contS (come st s n) n sp) (w32 (k + 1)) h') Q)) :
    zWp (l_R_rolling_358 d v s x4 x5 sp k n hs h) Q := by
  have hv := t.1
  have hS10 : nS σ ≤ 10 := w.2.1.2.2.2.1
  have hnn := w.n
  have ix : w32 (w32 (10 * v) + s) = 10 * v + s := ixw (by omega) (by omega)
  have ic : w32 (w32 (60 * v) + n) = 60 * v + n := ixw (by omega) (by omega)
  have wtc : WT σ (come st s n) := wt.come hn (fun i a b => sAt_free w.2.1.2.2.1 hf ⟨a, b⟩)
  have hr6 : 0 ≤ come st s n 6 n ∧ come st s n 6 n ≤ 99 := ⟨(wtc.2.1 n hn.1 hn.2).2.2.1, (wtc.2.1 n hn.1 hn.2).2.2.2.1⟩
  rw [el_R_rolling_358, ix]
  refine zWp_it (by omega) (zWp_lt fun h1 e1 => zWp_it (by omega) (zWp_it (by omega) (zWp_lt fun h2 e2 => ?_)))
  have e446 : h1 446 (10 * v + s) = h 446 (10 * v + s) := by rw [e1, zset_o (by decide)]
  rw [e446, e1] at e2
  have t2 : RT σ (come st s n) v h2 := by rw [e2]; exact RT.cm w t hst
  have m2 : ∀ q, h2 403 q = h 403 q := fun q => by rw [e2, zset_o (by decide), zset_o (by decide)]
  have r2 : ∀ r, ¬ (r = 444 ∨ r = 446) → h2 r = h r := fun r hr => by rw [e2, zset_n (by omega), zset_n (by omega)]
  have f2 : frR v h h2 := by
    rw [e2]
    exact (frR.s (Or.inr (Or.inl ⟨Or.inl rfl, by omega⟩))).t (frR.s (Or.inr (Or.inl ⟨Or.inr (Or.inr rfl), by omega⟩)))
  rw [m2 79, rw.1]
  -- behind the way
  have fin : ∀ h3, h3 403 = h2 403 → (∀ r, ¬ r = 456 → h3 r = h2 r) → (∀ (j : Nat) (x : Int), j < 60 → (W ++ [n])[j]? = some x → h3 456 j = x) → zWp (l_R_rolling_406 d v s x4 x5 sp k n hs h3) Q := by
    intro h3 e403 r3 p3
    rw [el_R_rolling_406]
    refine zWp_lt fun h4 e4 => ?_
    have e79 : h3 403 79 = W.length := by rw [e403, m2 79, rw.1]
    rw [e79, w32_i (by omega)] at e4
    have r4 : ∀ r, ¬ r = 403 → h4 r = h3 r := fun r hr => by rw [e4, zset_n hr]
    have m4 : ∀ q, ¬ q = 79 → h4 403 q = h 403 q := fun q hq => by rw [e4, zset_j hq, e403, m2 q]
    have f4 : frR v h h4 := by
      refine f2.t ?_
      have fa : frR v h2 h3 := ⟨fun r a b => r3 r (by omega), fun q _ => by rw [e403], fun i _ => ⟨by rw [r3 444 (by decide)], by rw [r3 445 (by decide)], by rw [r3 446 (by decide)]⟩, fun i _ => by rw [r3 447 (by decide)], fun i _ => by rw [r3 448 (by decide)]⟩
      refine fa.t ?_
      rw [e4]
      exact frR.s (Or.inl ⟨rfl, by decide⟩)
    have t4 : RT σ (come st s n) v h4 := t2.fr (fun r a b => by rw [r4 r (by omega), r3 r (by omega)])
    have R4 : ∀ r, ¬ (r = 403 ∨ r = 444 ∨ r = 446 ∨ r = 456) → h4 r = h r := fun r hr => by rw [r4 r (by omega), r3 r (by omega), r2 r (by omega)]
    have w4 : RW (W ++ [n]) h4 := by
      refine ⟨?_, fun j x hj hx => ?_⟩
      · rw [e4, zset_e, List.length_append]; simp
      · rw [r4 456 (by decide)]; exact p3 j x hj hx
    obtain ⟨K1, K2⟩ := K h4 t4 (g.r f4) f4 R4 w4 m4
    have e450 : h4 450 (60 * v + n) = come st s n 8 n := (t4.2.2.2 n hn.1 hn.2).2.2
    have e449 : h4 449 (60 * v + n) = come st s n 6 n := (t4.2.2.2 n hn.1 hn.2).2.1
    rw [ic, e450, e449, w32_i (by omega)]
    by_cases c1 : hs = -1
    · refine zWp_it c1 (zWp_it (by omega) ?_)
      by_cases c2 : come st s n 8 n = 1
      · have ec : contS (come st s n) n sp = 0 := by unfold contS; rw [if_pos c2]
        exact zWp_it c2 (zWp_s (K1 (Or.inr ec)))
      · refine zWp_nt c2 (zWp_it (by omega) ?_)
        by_cases c3 : 0 < sp - come st s n 6 n
        · have ec : contS (come st s n) n sp = sp - come st s n 6 n := by unfold contS; rw [if_neg c2, if_pos c3]
          rw [ec] at K2
          exact zWp_it c3 (K2 ⟨c1, by omega⟩)
        · have ec : contS (come st s n) n sp = 0 := by unfold contS; rw [if_neg c2, if_neg c3]
          exact zWp_nt c3 (zWp_s (K1 (Or.inr ec)))
    · exact zWp_nt c1 (zWp_s (K1 (Or.inl c1)))
  refine zWp_if (fun hlt => zWp_it (by omega) (zWp_lt fun h3 e3 => ?_)) (fun hge => ?_)
  · refine fin h3 (by rw [e3, zset_n (by decide)]) (fun r hr => by rw [e3, zset_n hr]) (fun j x hj hx => ?_)
    rw [e3, zset_g, r2 456 (by decide)]
    rw [List.getElem?_append] at hx
    by_cases hj2 : j < W.length
    · rw [if_pos hj2] at hx
      rw [if_neg (by omega)]
      exact rw.2 j x hj hx
    · rw [if_neg hj2] at hx
      have : j - W.length = 0 := by
        rcases Nat.eq_zero_or_pos (j - W.length) with z | z
        · exact z
        · rw [List.getElem?_eq_none (by exact z)] at hx; cases hx
      rw [this] at hx
      cases hx
      rw [if_pos (by omega)]
  · refine fin h2 rfl (fun _ _ => rfl) (fun j x hj hx => ?_)
    rw [r2 456 (by decide)]
    rw [List.getElem?_append_left (by omega)] at hx
    exact rw.2 j x hj hx
