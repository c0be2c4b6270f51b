/-! the mover's ways in -/
theorem q_begin {d : Nat} {σ st : zH} {a T m : Int} {h : zH} (w : WS σ) (hm : MA m) (g : CS σ a h) (t : CT σ st T h) (wt : WT σ st) : zWp (m_Mover_begin (d + 1) m a T h) (fun _ h' => PI σ [] st a T m h' ∧ frM T m h h') := by
  have hT := t.1.low
  have hap := hm.ap t.1
  have hml := hm.low
  have ha := g.a
  have z0 : 0 ≤ m := by omega
  rw [em_Mover_begin]
  refine zWp_po z0 (zWp_lt fun h1 e1 => zWp_po z0 (zWp_lt fun h2 e2 => zWp_po z0 (zWp_lt fun h3 e3 => zWp_po z0 (zWp_lt fun h4 e4 => zWp_po z0 (zWp_lt fun h5 e5 => zWp_po z0 (zWp_lt fun h6 e6 => zWp_po z0 (zWp_lt fun h7 e7 => zWp_po z0 (zWp_lt fun h8 e8 => zWp_po z0 (zWp_lt fun h9 e9 => zWp_po z0 (zWp_lt fun h10 e10 => zWp_po z0 (zWp_lt fun h11 e11 => zWp_po z0 (zWp_lt fun h12 e12 => zWp_s ?_))))))))))))
  have r12 : ∀ r, ¬ r = m → h12 r = h r := fun r hr => by rw [e12, zset_n hr, e11, zset_n hr, e10, zset_n hr, e9, zset_n hr, e8, zset_n hr, e7, zset_n hr, e6, zset_n hr, e5, zset_n hr, e4, zset_n hr, e3, zset_n hr, e2, zset_n hr, e1, zset_n hr]
  have f : ∀ q, h12 m q = if q = 10 then 0 else if q = 8 then 0 else if q = 7 then 0 else if q = 6 then 0 else if q = 5 then 0 else if q = 4 then 0 else if q = 3 then 0 else if q = 2 then 0 else if q = 1 then 0 else if q = 13 then 1 else if q = 12 then T else if q = 11 then a else h m q := fun q => by
    rw [e12, zset_g, e11, zset_g, e10, zset_g, e9, zset_g, e8, zset_g, e7, zset_g, e6, zset_g, e5, zset_g, e4, zset_g, e3, zset_g, e2, zset_g, e1, zset_g]
  refine ⟨⟨g.fr (fun r _ _ => r12 r (by omega)), t.fr (fun r _ _ => r12 r (by omega)), wt, ⟨?_, ?_, ?_, ?_, ?_, ⟨0, ?_, by decide, fun i => ?_⟩, ⟨?_, fun j x hx => ?_⟩, ?_, fun j e he => ?_⟩, ?_, ?_, ?_, ?_, ?_⟩, fun r hr => r12 r (by omega)⟩
  · rw [f 2]; rfl
  · rw [f 3]; rfl
  · rw [f 4]; rfl
  · rw [f 5]; rfl
  · rw [f 6]; rfl
  · rw [f 8]; rfl
  · constructor
    · intro z; rw [Nat.zero_testBit] at z; cases z
    · rintro ⟨e, he, -⟩; cases he
  · rw [f 1]; rfl
  · cases hx
  · rw [f 10]; rfl
  · cases he
  · rw [f 7]; rfl
  · rw [f 13]; rfl
  · rw [f 11]; rfl
  · rw [f 12]; rfl
  · show ((0 : Nat) : Int) + rem σ st ≤ 68
    have := rem_le (st := st) w
    omega
theorem q_pushSome {d : Nat} {σ st : zH} {a T m i x4 p x6 : Int} {n : Nat} {b : Bool} {h : zH} (w : WS σ) (hm : MA m) (g : CS σ a h) (t : CT σ st T h) (wt : WT σ st) (hp : 0 ≤ p ∧ p ≤ 2000000) (h6 : b = decide (x6 ≠ 0)) (h4 : x4 ≤ nS σ) (hi : 0 ≤ i) (hn : i + n = x4) :
    zWp (m_Mover_pushSome (d + 4) m a T i x4 p x6 h) (fun _ h' => PI σ (sprF σ p b n i st).2 (sprF σ p b n i st).1 a T m h' ∧ frM T m h h') := by
  have hml := hm.low
  rw [em_Mover_pushSome]
  obtain ⟨v, h1, e1, p1, f1⟩ := q_begin (d := d + 2) w hm g t wt
  refine zWp_po (by omega) (zWp_qv e1 ?_)
  have hrl := rem_le (st := st) w
  refine zWp_m (q_push9 w hm hp h6 h4 (st0 := st) n hi hn p1 (by show 0 + rem σ st ≤ 68; omega) (fun _ => rfl)) ?_
  rintro v h2 ⟨k1, k2⟩
  exact ⟨k1, f1.t k2⟩
theorem q_pushAll {d : Nat} {σ st : zH} {a T m p : Int} {h : zH} (w : WS σ) (hm : MA m) (g : CS σ a h) (t : CT σ st T h) (wt : WT σ st) (hp : 0 ≤ p ∧ p ≤ 2000000) :
    zWp (m_Mover_pushAll (d + 5) m a T p h) (fun _ h' => PI σ (sprF σ p false (nS σ).toNat 0 st).2 (sprF σ p false (nS σ).toNat 0 st).1 a T m h' ∧ frM T m h h') := by
  have hml := hm.low
  have ha := g.a
  have hS0 : 0 ≤ nS σ := w.2.1.2.2.1
  have e8 : h (a + 8) 7 = nS σ := g.g 8 (by decide)
  rw [em_Mover_pushAll, e8]
  obtain ⟨v, h1, e1, k1, k2⟩ := q_pushSome (d := d) (i := 0) (x4 := nS σ) (n := (nS σ).toNat) (x6 := 0) (b := false) w hm g t wt hp rfl (Int.le_refl _) (Int.le_refl _) (by omega)
  exact zWp_po (by omega) (zWp_po (by omega) (zWp_it (by decide) (zWp_po (by omega) (zWp_qv e1 (zWp_s ⟨k1, k2⟩)))))
theorem q_pushOne {d : Nat} {σ st : zH} {a T m s p : Int} {h : zH} (w : WS σ) (hm : MA m) (g : CS σ a h) (t : CT σ st T h) (wt : WT σ st) (hs : 0 ≤ s ∧ s < nS σ) (hp : 0 ≤ p ∧ p ≤ 2000000) :
    zWp (m_Mover_pushOne (d + 5) m a T s p h) (fun _ h' => PI σ (drv σ st s p).2 (drv σ st s p).1 a T m h' ∧ frM T m h h') := by
  have hml := hm.low
  have hS10 : nS σ ≤ 10 := w.2.1.2.2.2.1
  have e1 : sprF σ p false 1 s st = ((drv σ st s p).1, (drv σ st s p).2 ++ []) := by
    rw [sprF, if_neg (by simp), sprF]
  rw [em_Mover_pushOne, w32_i (by omega)]
  obtain ⟨v, h1, e2, k1, k2⟩ := q_pushSome (d := d) (i := s) (x4 := s + 1) (n := 1) (x6 := 0) (b := false) w hm g t wt hp rfl (by omega) hs.1 (by omega)
  rw [e1, List.append_nil] at k1
  exact zWp_po (by omega) (zWp_qv e2 (zWp_s ⟨k1, k2⟩))
theorem rollA_len {σ : zH} : ∀ (f : Nat) (st : zH) (s c sp m : Int), (rollA σ f st s c sp m).2.1.length ≤ f
  | 0, st, s, c, sp, m => Nat.le_refl _
  | f + 1, st, s, c, sp, m => by
    by_cases h1 : σ 2 c = -1
    · rw [rollA_no h1]; exact Nat.zero_le _
    · by_cases h2 : sAt σ st (σ 2 c) = -1
      · by_cases h3 : (stepB σ st s (σ 2 c) (sp + σ 3 c) m).2.2 = 0
        · rw [rollA_end h1 h2 h3]; exact Nat.succ_le_succ (Nat.zero_le _)
        · rw [rollA_go h1 h2 h3]; exact Nat.succ_le_succ (rollA_len f _ _ _ _ _)
      · rw [rollA_bar h1 h2]; exact Nat.succ_le_succ (Nat.zero_le _)
theorem mt_len {s y : Int} : ∀ rs : List zRec, (0 ≤ esum eMt (evs s y rs) ∧ esum eMt (evs s y rs) ≤ rs.length) ∧ (0 ≤ esum eRu (evs s y rs) ∧ esum eRu (evs s y rs) ≤ rs.length)
  | [] => ⟨⟨Int.le_refl _, Int.le_refl _⟩, Int.le_refl _, Int.le_refl _⟩
  | r :: rs => by
    have a := mt_len (s := s) (y := y) rs
    have e1 : esum eMt (evs s y (r :: rs)) = (if r.1 = 1 ∨ r.1 = 2 then 1 else 0) + esum eMt (evs s y rs) := rfl
    have e2 : esum eRu (evs s y (r :: rs)) = (if r.1 = 3 then 1 else 0) + esum eRu (evs s y rs) := rfl
    have e3 : (((r :: rs).length : Nat) : Int) = rs.length + 1 := by rw [List.length_cons]; omega
    rw [e1, e2, e3]
    constructor
    · split <;> omega
    · split <;> omega
theorem q_rollsAlone {d : Nat} {σ st : zH} {a T m s : Int} {h : zH} (w : WS σ) (hm : MA m) (g : CS σ a h) (t : CT σ st T h) (wt : WT σ st) (hs : 0 ≤ s ∧ s < nS σ) (hl : st 1 s ≠ -1) :
    zWp (m_Mover_rollsAlone (d + 4) m a T s h) (fun v h' => v = .inl (if pushed σ (rollS σ st s) = -1 ∧ esum eMt (evs s (σ 6 (st 1 s)) (rollS σ st s).2.1) = 0 ∧ esum eRu (evs s (σ 6 (st 1 s)) (rollS σ st s).2.1) = 0 then 1 else 0) ∧ PI σ [(s, st 1 s, (rollS σ st s).2.1)] (rollS σ st s).1 a T m h' ∧ frM T m h h') := by
  have hml := hm.low
  rw [em_Mover_rollsAlone]
  obtain ⟨v, h1, e1, p1, f1⟩ := q_begin (d := d + 2) w hm g t wt
  refine zWp_po (by omega) (zWp_qv e1 (zWp_po (by omega) ?_))
  obtain ⟨v2, h2, e2, rfl, p2, f2⟩ := q_roll1 (d := d) w hm hs hl p1
  refine zWp_qi e2 ?_
  have hlen := rollA_len (σ := σ) 60 (zset st 2 s (st 2 s + 1)) s (st 1 s) 0 0
  have hb := mt_len (s := s) (y := σ 6 (st 1 s)) (rollS σ st s).2.1
  have hlen2 : (((rollS σ st s).2.1.length : Nat) : Int) ≤ 60 := by unfold rollS; omega
  have eE : trEv σ ([] ++ [(s, st 1 s, (rollS σ st s).2.1)]) = evs s (σ 6 (st 1 s)) (rollS σ st s).2.1 := List.append_nil _
  have e5 : h2 m 5 = esum eMt (evs s (σ 6 (st 1 s)) (rollS σ st s).2.1) := by
    rw [p2.2.2.2.1.2.2.2.1, eE, w32_i (by omega)]
  have e3 : h2 m 3 = esum eRu (evs s (σ 6 (st 1 s)) (rollS σ st s).2.1) := by
    rw [p2.2.2.2.1.2.1, eE, w32_i (by omega)]
  rw [e5, e3]
  have fin : frM T m h h2 := f1.t f2
  by_cases c1 : pushed σ (rollS σ st s) = -1
  · refine zWp_it c1 (zWp_po (by omega) ?_)
    by_cases c2 : esum eMt (evs s (σ 6 (st 1 s)) (rollS σ st s).2.1) = 0
    · refine zWp_it c2 (zWp_po (by omega) ?_)
      by_cases c3 : esum eRu (evs s (σ 6 (st 1 s)) (rollS σ st s).2.1) = 0
      · exact zWp_it c3 (zWp_s ⟨by rw [if_pos ⟨c1, c2, c3⟩], p2, fin⟩)
      · exact zWp_nt c3 (zWp_s ⟨by rw [if_neg (fun z => c3 z.2.2)], p2, fin⟩)
    · exact zWp_nt c2 (zWp_s ⟨by rw [if_neg (fun z => c2 z.2.1)], p2, fin⟩)
  · exact zWp_nt c1 (zWp_s ⟨by rw [if_neg (fun z => c1 z.1)], p2, fin⟩)
