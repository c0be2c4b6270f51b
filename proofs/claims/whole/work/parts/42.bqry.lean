/-! the class: what would be -/
def BC (σ st : zH) (a : Int) (h : zH) : Prop := h 0 7 = a ∧ CS σ a h ∧ CT σ st 67 h ∧ WS σ ∧ WT σ st
def frQ (h h' : zH) : Prop := ∀ r, ¬ (75 ≤ r ∧ r < 83 ∨ 328 ≤ r ∧ r < 331) → h' r = h r
theorem frQ.rf (h : zH) : frQ h h := fun _ _ => rfl
theorem frQ.t {a b c : zH} (h1 : frQ a b) (h2 : frQ b c) : frQ a c := fun r hr => (h2 r hr).trans (h1 r hr)
theorem BC.q {σ st : zH} {a : Int} {h h' : zH} (b : BC σ st a h) (f : frQ h h') : BC σ st a h' := by
  have ha := b.2.1.a
  exact ⟨by rw [f 0 (by decide)]; exact b.1, b.2.1.fr (fun r _ _ => f r (by omega)), b.2.2.1.fr (fun r _ _ => f r (by omega)), b.2.2.2⟩
theorem sa75 : SA 75 := Or.inr (Or.inl rfl)
theorem ma328 : MA 328 := Or.inl rfl
theorem q_hasStone {d : Nat} {σ st : zH} {a s : Int} {h : zH} (b : BC σ st a h) : m_B_hasStone (d + 2) s h = some (.inl (if 0 ≤ s ∧ s < nS σ then 1 else 0), h) := by
  have ha := b.2.1.a
  have e : h (a + 8) 7 = nS σ := b.2.1.g 8 (by decide)
  rw [em_B_hasStone, b.1, e, zpo_t (by omega), zpo_t (by omega), if_pos (by decide), q_within, zqi_s, zbo_t (by split <;> decide)]
theorem q_hasOwner {d : Nat} {σ st : zH} {a s : Int} {h : zH} (b : BC σ st a h) : m_B_hasOwner (d + 2) s h = some (.inl (if 0 ≤ s ∧ s < nO σ then 1 else 0), h) := by
  have ha := b.2.1.a
  have e : h (a + 8) 4 = nO σ := b.2.1.g 8 (by decide)
  rw [em_B_hasOwner, b.1, e, zpo_t (by omega), zpo_t (by omega), if_pos (by decide), q_within, zqi_s, zbo_t (by split <;> decide)]
theorem q_stoneLies {d : Nat} {σ st : zH} {a s : Int} {h : zH} (b : BC σ st a h) : m_B_stoneLies (d + 3) s h = some (.inl (if (0 ≤ s ∧ s < nS σ) ∧ st 1 s ≠ -1 then 1 else 0), h) := by
  have hS10 : nS σ ≤ 10 := b.2.2.2.1.2.1.2.2.2.1
  rw [em_B_stoneLies, q_hasStone b, zqi_s]
  by_cases c1 : 0 ≤ s ∧ s < nS σ
  · have e : h (67 + 1) s = st 1 s := b.2.2.1.pl (by omega)
    rw [if_pos c1, if_neg (by decide), if_pos (by omega), show h 68 s = st 1 s from e]
    by_cases c2 : st 1 s = -1
    · rw [if_pos c2, if_neg (fun z => z.2 c2)]
    · rw [if_neg c2, if_pos ⟨c1, c2⟩]
  · rw [if_neg c1, if_pos rfl, if_neg (fun z => c1 z.1)]
theorem q_tryPush {d : Nat} {σ st : zH} {a s p : Int} {h : zH} (b : BC σ st a h) (hs : 0 ≤ s ∧ s < nS σ) (hp : 0 ≤ p ∧ p ≤ 2000000) : zWp (m_B_tryPush (d + 6) s p h) (fun _ h' => PI σ (drv σ st s p).2 (drv σ st s p).1 a 75 328 h' ∧ frQ h h') := by
  have ha := b.2.1.a
  rw [em_B_tryPush]
  obtain ⟨v, h1, e1, c1, -, f1⟩ := q_copyT (d := d + 4) b.2.2.2.1 sa75 (by decide) b.2.2.1
  refine zWp_qv e1 ?_
  have b1 : h1 0 7 = a := by rw [f1 0 (by decide)]; exact b.1
  rw [b1]
  obtain ⟨v2, h2, e2, k1, k2⟩ := q_pushOne (d := d) b.2.2.2.1 ma328 (b.2.1.fr (fun r _ _ => f1 r (by omega))) c1 b.2.2.2.2 hs hp
  exact zWp_qv e2 (zWp_s ⟨k1, fun r hr => by rw [k2 r (by omega), f1 r (by omega)]⟩)
/-- a spring of strength p -/
abbrev spr (σ : zH) (p : Int) (st : zH) : zH × zTr := sprF σ p false (nS σ).toNat 0 st
theorem q_tryThaw {d : Nat} {σ st : zH} {a x : Int} {h : zH} (b : BC σ st a h) (hx : 0 ≤ x ∧ x < nT σ) : zWp (m_B_tryThaw (d + 6) x h) (fun _ h' => PI σ (spr σ (σ 18 x) st).2 (spr σ (σ 18 x) st).1 a 75 328 h' ∧ frQ h h') := by
  have ha := b.2.1.a
  have hT6 : nT σ ≤ 6 := b.2.2.2.1.2.1.2.2.2.2.2.2.2.1
  have h18 := b.2.2.2.1.2.2.2.2.2.2.1 x hx.1 hx.2
  rw [em_B_tryThaw]
  obtain ⟨v, h1, e1, c1, -, f1⟩ := q_copyT (d := d + 4) b.2.2.2.1 sa75 (by decide) b.2.2.1
  refine zWp_qv e1 ?_
  have b1 : h1 0 7 = a := by rw [f1 0 (by decide)]; exact b.1
  have g1 : CS σ a h1 := b.2.1.fr (fun r _ _ => f1 r (by omega))
  have e18 : h1 (a + 18) x = σ 18 x := g1.g 18 (by decide)
  rw [b1, e18]
  obtain ⟨v2, h2, e2, k1, k2⟩ := q_pushAll (d := d) (p := σ 18 x) b.2.2.2.1 ma328 g1 c1 b.2.2.2.2 ⟨h18.1, by omega⟩
  exact zWp_po (by omega) (zWp_po (by omega) (zWp_it (by omega) (zWp_qv e2 (zWp_s ⟨k1, fun r hr => by rw [k2 r (by omega), f1 r (by omega)]⟩))))
def vPath (σ st : zH) (s p k : Int) : Int := if ((0 ≤ s ∧ s < nS σ) ∧ st 1 s ≠ -1) ∧ (0 ≤ p ∧ p ≤ 99999) then (if k = -1 then ((pathT (drv σ st s p).2).length : Int) else if 0 ≤ k ∧ k < ((pathT (drv σ st s p).2).length : Int) then (pathT (drv σ st s p).2).getD k.toNat 0 else -1) else -1
theorem getD_some {l : List Int} {j : Nat} (h : j < l.length) : l[j]? = some (l.getD j 0) := by
  rw [List.getD_eq_getElem?_getD, List.getElem?_eq_getElem h]; rfl
theorem drvB_path {σ : zH} (f : Nat) (st : zH) (s : Int) : (pathT (drvB σ f st s).2).length ≤ 60 := by
  cases f with
  | zero => exact Nat.zero_le _
  | succ f =>
    unfold drvB
    by_cases e : s = -1
    · rw [if_pos e]; exact Nat.zero_le _
    · rw [if_neg e]
      have hlen := rollA_len (σ := σ) 60 (zset st 2 s (st 2 s + 1)) s (st 1 s) 0 0
      have hcl := cellsOf_len (rollS σ st s).2.1
      show (cellsOf (rollS σ st s).2.1).length ≤ 60
      unfold rollS at hcl ⊢
      omega
theorem q_path {d : Nat} {σ st : zH} {a s p k : Int} {h : zH} (b : BC σ st a h) : zWp (m_B_path (d + 7) s p k h) (fun v h' => v = .inl (vPath σ st s p k) ∧ frQ h h') := by
  rw [em_B_path]
  refine zWp_qi (q_stoneLies b) ?_
  by_cases c1 : (0 ≤ s ∧ s < nS σ) ∧ st 1 s ≠ -1
  · rw [if_pos c1]
    refine zWp_nt (by decide) (zWp_qi q_between ?_)
    by_cases c2 : 0 ≤ p ∧ p ≤ 99999
    · have ev : vPath σ st s p k = (if k = -1 then ((pathT (drv σ st s p).2).length : Int) else if 0 ≤ k ∧ k < ((pathT (drv σ st s p).2).length : Int) then (pathT (drv σ st s p).2).getD k.toNat 0 else -1) := by unfold vPath; exact if_pos ⟨c1, c2⟩
      rw [if_pos c2, ev]
      obtain ⟨v, h5, e5, k1, k2⟩ := q_tryPush (d := d) b c1.1 (show 0 ≤ p ∧ p ≤ 2000000 by omega)
      refine zWp_nt (by decide) (zWp_qv e5 ?_)
      obtain ⟨p1, p2⟩ := k1.2.2.2.1.2.2.2.2.2.2.1
      have hl := drvB_path (σ := σ) 10 st (if st 1 s ≠ -1 ∧ σ 2 (st 1 s) ≠ -1 ∧ σ 14 s < p + σ 3 (st 1 s) then s else -1)
      have hl2 : ((pathT (drv σ st s p).2).length : Int) ≤ 60 := by unfold drv; omega
      rw [p1]
      refine zWp_if (fun z => zWp_s ⟨by rw [if_pos z], k2⟩) (fun z => zWp_qi q_within ?_)
      rw [if_neg z]
      by_cases c3 : 0 ≤ k ∧ k < ((pathT (drv σ st s p).2).length : Int)
      · rw [if_pos c3, if_pos c3]
        refine zWp_nt (by decide) (zWp_it (by omega) (zWp_s ⟨?_, k2⟩))
        have := p2 k.toNat _ (getD_some (by omega))
        rw [show ((k.toNat : Nat) : Int) = k by omega] at this
        rw [← this]
        rfl
      · rw [if_neg c3, if_neg c3]
        exact zWp_it rfl (zWp_s ⟨rfl, k2⟩)
    · have ev : vPath σ st s p k = -1 := by unfold vPath; exact if_neg (fun z => c2 z.2)
      rw [if_neg c2, ev]
      exact zWp_it rfl (zWp_s ⟨rfl, frQ.rf h⟩)
  · have ev : vPath σ st s p k = -1 := by unfold vPath; exact if_neg (fun z => c1 z.1)
    rw [if_neg c1, ev]
    exact zWp_it rfl (zWp_s ⟨rfl, frQ.rf h⟩)
def vRoll (σ st : zH) (s p k : Int) : Int := if ((0 ≤ s ∧ s < nS σ) ∧ st 1 s ≠ -1) ∧ (0 ≤ p ∧ p ≤ 99999) then (if k = 0 then (drv σ st s p).1 1 s else if k = 1 then w32 (esum eRu (trEv σ (drv σ st s p).2)) else if k = 2 then w32 (esum eGo (trEv σ (drv σ st s p).2)) else if k = 3 then w32 (drv σ st s p).2.length else if k = 4 then w32 (esum eWo (trEv σ (drv σ st s p).2)) else if k = 5 then etop (trEv σ (drv σ st s p).2) 0 else -1) else -1
theorem q_roll {d : Nat} {σ st : zH} {a s p k : Int} {h : zH} (b : BC σ st a h) : zWp (m_B_roll (d + 7) s p k h) (fun v h' => v = .inl (vRoll σ st s p k) ∧ frQ h h') := by
  have hS10 : nS σ ≤ 10 := b.2.2.2.1.2.1.2.2.2.1
  rw [em_B_roll]
  refine zWp_qi (q_stoneLies b) ?_
  by_cases c1 : (0 ≤ s ∧ s < nS σ) ∧ st 1 s ≠ -1
  · rw [if_pos c1]
    refine zWp_nt (by decide) (zWp_qi q_between ?_)
    by_cases c2 : 0 ≤ p ∧ p ≤ 99999
    · have ev : vRoll σ st s p k = (if k = 0 then (drv σ st s p).1 1 s else if k = 1 then w32 (esum eRu (trEv σ (drv σ st s p).2)) else if k = 2 then w32 (esum eGo (trEv σ (drv σ st s p).2)) else if k = 3 then w32 (drv σ st s p).2.length else if k = 4 then w32 (esum eWo (trEv σ (drv σ st s p).2)) else if k = 5 then etop (trEv σ (drv σ st s p).2) 0 else -1) := by unfold vRoll; exact if_pos ⟨c1, c2⟩
      rw [if_pos c2, ev]
      obtain ⟨v, h5, e5, k1, k2⟩ := q_tryPush (d := d) b c1.1 (show 0 ≤ p ∧ p ≤ 2000000 by omega)
      refine zWp_nt (by decide) (zWp_qv e5 ?_)
      have ep : h5 76 s = (drv σ st s p).1 1 s := k1.2.1.pl (by omega)
      obtain ⟨m2, m3, m4, m5, m6, -⟩ := k1.2.2.2.1
      rw [ep, m2, m3, m4, m6, k1.2.2.2.2.1]
      refine zWp_if (fun z => zWp_it (by omega) (zWp_s ⟨by rw [if_pos z], k2⟩)) (fun z0 => ?_)
      rw [if_neg z0]
      refine zWp_if (fun z => zWp_s ⟨by rw [if_pos z], k2⟩) (fun z1 => ?_)
      rw [if_neg z1]
      refine zWp_if (fun z => zWp_s ⟨by rw [if_pos z], k2⟩) (fun z2 => ?_)
      rw [if_neg z2]
      refine zWp_if (fun z => zWp_s ⟨by rw [if_pos z], k2⟩) (fun z3 => ?_)
      rw [if_neg z3]
      refine zWp_if (fun z => zWp_s ⟨by rw [if_pos z], k2⟩) (fun z4 => ?_)
      rw [if_neg z4]
      refine zWp_if (fun z => zWp_s ⟨by rw [if_pos z], k2⟩) (fun z5 => ?_)
      rw [if_neg z5]
      exact zWp_s ⟨rfl, k2⟩
    · have ev : vRoll σ st s p k = -1 := by unfold vRoll; exact if_neg (fun z => c2 z.2)
      rw [if_neg c2, ev]
      exact zWp_it rfl (zWp_s ⟨rfl, frQ.rf h⟩)
  · have ev : vRoll σ st s p k = -1 := by unfold vRoll; exact if_neg (fun z => c1 z.1)
    rw [if_neg c1, ev]
    exact zWp_it rfl (zWp_s ⟨rfl, frQ.rf h⟩)
