def wcB (σ st : zH) (c : Int) : Prop := sAt σ st c = -1 ∧ ¬ 0 < st 5 c ∧ ¬ (σ 7 c ≠ -1 ∧ st 9 (σ 7 c) ≠ 1) ∧ ¬ st 8 c = 1
def wcG (σ st : zH) (s c : Int) : Prop := (pushed σ (rollS σ (zset st 1 s c) s) = -1 ∧ esum eMt (evs 0 0 (rollS σ (zset st 1 s c) s).2.1) = 0 ∧ esum eRu (evs 0 0 (rollS σ (zset st 1 s c) s).2.1) = 0) ∧ (rollS σ (zset st 1 s c) s).1 1 s = st 1 s
noncomputable def wcF (σ st : zH) (s c : Int) : Bool := @decide (wcB σ st c ∧ wcG σ st s c) (Classical.propDecidable _)
theorem wcF_t {σ st : zH} {s c : Int} (h : wcB σ st c ∧ wcG σ st s c) : wcF σ st s c = true := @decide_eq_true _ (Classical.propDecidable _) h
theorem wcF_f {σ st : zH} {s c : Int} (h : ¬ (wcB σ st c ∧ wcG σ st s c)) : wcF σ st s c = false := @decide_eq_false _ (Classical.propDecidable _) h
noncomputable def whA (σ st : zH) (s k : Int) : Nat → Int → Int → Int
  | 0, _, x => if k = -1 then x else -1
  | n + 1, c, x => match wcF σ st s c with
    | true => if x = k then c else whA σ st s k n (c + 1) (x + 1)
    | false => whA σ st s k n (c + 1) x
theorem whA_t {σ st : zH} {s k : Int} {n : Nat} {c x : Int} (h : wcF σ st s c = true) : whA σ st s k (n + 1) c x = if x = k then c else whA σ st s k n (c + 1) (x + 1) := by rw [whA, h]
theorem whA_f {σ st : zH} {s k : Int} {n : Nat} {c x : Int} (h : wcF σ st s c = false) : whA σ st s k (n + 1) c x = whA σ st s k n (c + 1) x := by rw [whA, h]
theorem whA_no {σ st : zH} {s k : Int} (hk : k < -1) : ∀ (n : Nat) {c x : Int}, 0 ≤ x → whA σ st s k n c x = -1
  | 0, c, x, _ => by rw [whA, if_neg (by omega)]
  | n + 1, c, x, hx => by
    cases hw : wcF σ st s c with
    | true => rw [whA_t hw, if_neg (by omega)]; exact whA_no hk n (by omega)
    | false => rw [whA_f hw]; exact whA_no hk n hx
noncomputable def vWhence (σ st : zH) (s k : Int) : Int := @ite _ ((0 ≤ s ∧ s < nS σ) ∧ st 1 s ≠ -1) (Classical.propDecidable _) (whA σ st s k (nC σ).toNat 0 0) (-1)
theorem evs_ru {s y s' y' : Int} : ∀ rs : List zRec, esum eRu (evs s y rs) = esum eRu (evs s' y' rs)
  | [] => rfl
  | r :: rs => by
    show (if r.1 = 3 then (1 : Int) else 0) + esum eRu (evs s y rs) = (if r.1 = 3 then (1 : Int) else 0) + esum eRu (evs s' y' rs)
    rw [evs_ru rs]
theorem q_mayCome {d : Nat} {σ st : zH} {a s c : Int} {h : zH} (b : BC σ st a h) (hs : 0 ≤ s ∧ s < nS σ) (hl : ¬ st 1 s = -1) (hc : 0 ≤ c ∧ c < nC σ) : zWp (m_B_mayHaveComeFrom (d + 5) s c h) (fun v h' => v = .inl (match wcF σ st s c with | true => 1 | false => 0) ∧ frQ h h') := by
  have ha := b.2.1.a
  have hn := b.2.2.2.1.n
  have hS10 : nS σ ≤ 10 := b.2.2.2.1.2.1.2.2.2.1
  have hS0 : 0 ≤ nS σ := b.2.2.2.1.2.1.2.2.1
  rw [em_B_mayHaveComeFrom, b.1]
  refine zWp_qi (q_isBarred b.2.1 b.2.2.2.1 b.2.2.1 hc) ?_
  by_cases c1 : sAt σ st c ≠ -1 ∨ 0 < st 5 c ∨ (σ 7 c ≠ -1 ∧ st 9 (σ 7 c) ≠ 1)
  · have ef : wcF σ st s c = false := wcF_f (fun z => by
      rcases c1 with q | q | q
      · exact q z.1.1
      · exact z.1.2.1 q
      · exact z.1.2.2.1 q)
    rw [if_pos c1, ef]
    exact zWp_nt (by decide) (zWp_s ⟨rfl, frQ.rf h⟩)
  · rw [if_neg c1]
    have f1 : sAt σ st c = -1 := Classical.byContradiction fun z => c1 (Or.inl z)
    refine zWp_it rfl (zWp_qi (q_hasNet b.2.2.1 (by omega)) ?_)
    by_cases c2 : st 8 c = 1
    · rw [if_pos c2, wcF_f (fun z => z.1.2.2.2 c2)]
      exact zWp_nt (by decide) (zWp_s ⟨rfl, frQ.rf h⟩)
    · have hB : wcB σ st c := ⟨f1, fun z => c1 (Or.inr (Or.inl z)), fun z => c1 (Or.inr (Or.inr z)), c2⟩
      have hne : ¬ c = st 1 s := fun z => sAt_free hS0 f1 hs z.symm
      have e2 : h (a + 2) c = σ 2 c := b.2.1.g 2 (by decide)
      have wt1 : WT σ (zset st 1 s c) := WT_mv b.2.2.2.2 hc (fun i i1 i2 => sAt_free hS0 f1 ⟨i1, i2⟩)
      have p1 : zset st 1 s c 1 s = c := zset_e
      rw [if_neg c2, b.1, e2]
      refine zWp_it rfl (zWp_po (by omega) (zWp_po (by omega) (zWp_it (by omega) ?_)))
      by_cases c3 : σ 2 c = -1
      · have ef : wcF σ st s c = false := wcF_f (fun z => by
          have q := z.2.2
          unfold rollS at q
          rw [p1, show (60 : Nat) = 59 + 1 from rfl, rollA_no c3] at q
          have q2 : zset (zset st 1 s c) 2 s (zset st 1 s c 2 s + 1) 1 s = st 1 s := q
          rw [zset_o (by decide), p1] at q2
          exact hne q2)
        rw [ef]
        exact zWp_it c3 (zWp_s ⟨rfl, frQ.rf h⟩)
      · obtain ⟨v, h5, e5, k5, -, f5⟩ := q_copyT (d := d + 3) b.2.2.2.1 sa75 (by decide) b.2.2.1
        obtain ⟨v6, h6, e6, k6, f6⟩ := q_move (d := d + 3) b.2.2.2.1 k5 b.2.2.2.2 hs hl hc f1
        have r6 : ∀ r, ¬ (75 ≤ r ∧ r < 83) → h6 r = h r := fun r hr => by rw [f6 r (by omega), f5 r (by omega)]
        have b6 : h6 0 7 = a := by rw [r6 0 (by decide)]; exact b.1
        refine zWp_nt c3 (zWp_qv e5 (zWp_qv e6 ?_))
        rw [b6]
        obtain ⟨v7, h7, e7, rfl, k7, f7⟩ := q_rollsAlone (d := d) b.2.2.2.1 ma328 (b.2.1.fr (fun r _ _ => r6 r (by omega))) k6 wt1 hs (by rw [p1]; omega)
        have fq : frQ h h7 := fun r hr => by rw [f7 r (by omega), r6 r (by omega)]
        refine zWp_qi e7 ?_
        have em := evs_mt (s := s) (y := σ 6 (zset st 1 s c 1 s)) (s' := 0) (y' := 0) (rollS σ (zset st 1 s c) s).2.1
        have er := evs_ru (s := s) (y := σ 6 (zset st 1 s c 1 s)) (s' := 0) (y' := 0) (rollS σ (zset st 1 s c) s).2.1
        rw [em, er]
        by_cases c4 : pushed σ (rollS σ (zset st 1 s c) s) = -1 ∧ esum eMt (evs 0 0 (rollS σ (zset st 1 s c) s).2.1) = 0 ∧ esum eRu (evs 0 0 (rollS σ (zset st 1 s c) s).2.1) = 0
        · rw [if_pos c4]
          have e76 : h7 76 s = (rollS σ (zset st 1 s c) s).1 1 s := k7.2.1.pl (by omega)
          have e68 : h7 68 s = st 1 s := (b.q fq).2.2.1.pl (by omega)
          rw [e76, e68]
          refine zWp_nt (by decide) (zWp_it (by omega) (zWp_it (by omega) ?_))
          by_cases c5 : (rollS σ (zset st 1 s c) s).1 1 s = st 1 s
          · rw [wcF_t ⟨hB, c4, c5⟩]
            exact zWp_it c5 (zWp_s ⟨rfl, fq⟩)
          · rw [wcF_f (fun z => c5 z.2.2)]
            exact zWp_nt c5 (zWp_s ⟨rfl, fq⟩)
        · rw [if_neg c4, wcF_f (fun z => c4 z.2.1)]
          exact zWp_it rfl (zWp_s ⟨rfl, fq⟩)
theorem q_whence15 {d : Nat} {σ st : zH} {a s k : Int} (hs : 0 ≤ s ∧ s < nS σ) (hl : ¬ st 1 s = -1) : ∀ (n : Nat) {c x : Int} {h : zH}, BC σ st a h → 0 ≤ c → c + n = nC σ → 0 ≤ x ∧ x ≤ c → zWp (l_B_whence_15 (d + 5) s k x c h) (fun v h' => v = .inl (whA σ st s k n c x) ∧ frQ h h') := by
  intro n
  induction n with
  | zero =>
    intro c x h b hc hn hx
    have ha := b.2.1.a
    rw [el_B_whence_15, b.1]
    refine zWp_po (by omega) (zWp_qi (q_cells b.2.1 b.2.2.2.1) (zWp_nt (by omega) ?_))
    rw [whA]
    exact zWp_if (fun z => zWp_s ⟨by rw [if_pos z], frQ.rf h⟩) (fun z => zWp_s ⟨by rw [if_neg z], frQ.rf h⟩)
  | succ n ih =>
    intro c x h b hc hn hx
    have ha := b.2.1.a
    have hnn := b.2.2.2.1.n
    rw [el_B_whence_15, b.1]
    refine zWp_po (by omega) (zWp_qi (q_cells b.2.1 b.2.2.2.1) (zWp_it (by omega) ?_))
    obtain ⟨v, h3, e3, rfl, f3⟩ := q_mayCome (d := d) b hs hl (show 0 ≤ c ∧ c < nC σ by omega)
    refine zWp_qi e3 ?_
    rw [w32_i (x := c + 1) (by omega), w32_i (x := x + 1) (by omega)]
    cases hw : wcF σ st s c with
    | true =>
      rw [whA_t hw]
      refine zWp_nt (show ¬ (1 : Int) = 0 by decide) (zWp_if (fun z => zWp_s ⟨by rw [if_pos z], f3⟩) (fun z => ?_))
      rw [if_neg z]
      refine zWp_m (ih (b.q f3) (by omega) (by omega) (by omega)) ?_
      rintro v h' ⟨u1, u2⟩
      exact ⟨u1, f3.t u2⟩
    | false =>
      rw [whA_f hw]
      refine zWp_it (show (0 : Int) = 0 from rfl) (zWp_m (ih (b.q f3) (by omega) (by omega) (by omega)) ?_)
      rintro v h' ⟨u1, u2⟩
      exact ⟨u1, f3.t u2⟩
theorem q_whence {d : Nat} {σ st : zH} {a s k : Int} {h : zH} (b : BC σ st a h) : zWp (m_B_whence (d + 6) s k h) (fun v h' => v = .inl (vWhence σ st s k) ∧ frQ h h') := by
  have hn := b.2.2.2.1.n
  rw [em_B_whence]
  refine zWp_qi (q_stoneLies b) ?_
  by_cases c1 : (0 ≤ s ∧ s < nS σ) ∧ st 1 s ≠ -1
  · have ev : vWhence σ st s k = whA σ st s k (nC σ).toNat 0 0 := by unfold vWhence; exact if_pos c1
    rw [if_pos c1, ev]
    exact zWp_nt (by decide) (q_whence15 (d := d) c1.1 c1.2 (nC σ).toNat b (Int.le_refl 0) (by omega) (by omega))
  · have ev : vWhence σ st s k = -1 := by unfold vWhence; exact if_neg c1
    rw [if_neg c1, ev]
    exact zWp_it rfl (zWp_s ⟨rfl, frQ.rf h⟩)
