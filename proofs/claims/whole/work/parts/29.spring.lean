/-! drives and springs -/
def drvB (σ : zH) : Nat → zH → Int → zH × zTr
  | 0, st, _ => (st, [])
  | f + 1, st, s => if s = -1 then (st, []) else ((drvB σ f (rollS σ st s).1 (pushed σ (rollS σ st s))).1, (s, st 1 s, (rollS σ st s).2.1) :: (drvB σ f (rollS σ st s).1 (pushed σ (rollS σ st s))).2)
/-- a stone is pushed, and what it pushes -/
def drv (σ st : zH) (s p : Int) : zH × zTr := drvB σ 10 st (if st 1 s ≠ -1 ∧ σ 2 (st 1 s) ≠ -1 ∧ σ 14 s < p + σ 3 (st 1 s) then s else -1)
def hasRu (tr : zTr) : Bool := tr.any (fun x => x.2.2.any (fun r => decide (r.1 = 3)))
/-- stones i and on, n of them; b: until a house is a ruin -/
def sprF (σ : zH) (p : Int) (b : Bool) : Nat → Int → zH → zH × zTr
  | 0, _, st => (st, [])
  | n + 1, i, st => if (b && hasRu (drv σ st i p).2) = true then drv σ st i p else ((sprF σ p b n (i + 1) (drv σ st i p).1).1, (drv σ st i p).2 ++ (sprF σ p b n (i + 1) (drv σ st i p).1).2)
def trEv (σ : zH) : zTr → List zEv
  | [] => []
  | x :: tr => evs x.1 (σ 6 x.2.1) x.2.2 ++ trEv σ tr
theorem trEv_app (σ : zH) : ∀ a b : zTr, trEv σ (a ++ b) = trEv σ a ++ trEv σ b
  | [], b => rfl
  | x :: a, b => by
    show evs x.1 (σ 6 x.2.1) x.2.2 ++ trEv σ (a ++ b) = evs x.1 (σ 6 x.2.1) x.2.2 ++ trEv σ a ++ trEv σ b
    rw [trEv_app σ a b, List.append_assoc]
def pathT : zTr → List Int
  | [] => []
  | x :: _ => cellsOf x.2.2
theorem rollA_oth {σ : zH} (hS : 0 ≤ nS σ) : ∀ (f : Nat) (st : zH) (s c sp m : Int), (rollA σ f st s c sp m).2.2.1 = -1 ∨ 0 ≤ (rollA σ f st s c sp m).2.2.1 ∧ (rollA σ f st s c sp m).2.2.1 < nS σ
  | 0, st, s, c, sp, m => Or.inl rfl
  | f + 1, st, s, c, sp, m => by
    by_cases h1 : σ 2 c = -1
    · rw [rollA_no h1]; exact Or.inl rfl
    · by_cases h2 : sAt σ st (σ 2 c) = -1
      · by_cases h3 : (stepB σ st s (σ 2 c) (sp + σ 3 c) m).2.2 = 0
        · rw [rollA_end h1 h2 h3]; exact Or.inl rfl
        · rw [rollA_go h1 h2 h3]; exact rollA_oth hS f _ _ _ _ _
      · rw [rollA_bar h1 h2]
        have := sAt_in hS h2
        exact Or.inr ⟨this.1, this.2.1⟩
theorem pushed_ok {σ st : zH} {s : Int} (hS : 0 ≤ nS σ) : pushed σ (rollS σ st s) = -1 ∨ (0 ≤ pushed σ (rollS σ st s) ∧ pushed σ (rollS σ st s) < nS σ) ∧ (rollS σ st s).1 1 (pushed σ (rollS σ st s)) ≠ -1 := by
  unfold pushed
  split
  · rename_i z
    rcases rollA_oth hS 60 (zset st 2 s (st 2 s + 1)) s (st 1 s) 0 0 with q | q
    · exact absurd q z.1
    · exact Or.inr ⟨q, z.2.1⟩
  · exact Or.inl rfl
/-- a mover at work -/
def PI (σ : zH) (tr : zTr) (st : zH) (a T m : Int) (h : zH) : Prop :=
  CS σ a h ∧ CT σ st T h ∧ WT σ st ∧ MV σ (trEv σ tr) tr.length (pathT tr) m h ∧ h m 7 = etop (trEv σ tr) 0 ∧ h m 13 = (match tr with | [] => 1 | _ :: _ => 0) ∧ h m 11 = a ∧ h m 12 = T ∧ ((ecl σ (trEv σ tr)).length : Int) + rem σ st ≤ 68
theorem q_roll1 {d : Nat} {σ st : zH} {a T m s : Int} {h : zH} {tr : zTr} (w : WS σ) (hm : MA m) (hs : 0 ≤ s ∧ s < nS σ) (hl : st 1 s ≠ -1) (pi : PI σ tr st a T m h) :
    zWp (m_Mover_rollOnce (d + 3) m s h) (fun v h' => v = .inl (pushed σ (rollS σ st s)) ∧ PI σ (tr ++ [(s, st 1 s, (rollS σ st s).2.1)]) (rollS σ st s).1 a T m h' ∧ (∀ r, ¬ (T ≤ r ∧ r < T + 8 ∨ m ≤ r ∧ r < m + 3) → h' r = h r)) := by
  obtain ⟨g, t, wt, mv, e7, e13, ea, eT, hcl⟩ := pi
  have hP : okL h m (pathT tr) 0 := by
    cases tr with
    | nil => exact Or.inr (show ((0 : Nat) : Int) ≤ 0 by decide)
    | cons x tr => exact Or.inl e13
  refine zWp_m (q_rollOnce w hm hs g t wt ea eT hl hP mv hcl) ?_
  rintro v h' ⟨u1, u2, u3, u4, u5, u6, u7, u8, u9, u10, u11⟩
  have eE : trEv σ (tr ++ [(s, st 1 s, (rollS σ st s).2.1)]) = trEv σ tr ++ evs s (σ 6 (st 1 s)) (rollS σ st s).2.1 := by
    rw [trEv_app]
    show trEv σ tr ++ (evs s (σ 6 (st 1 s)) (rollS σ st s).2.1 ++ []) = _
    rw [List.append_nil]
  have eL : (((tr ++ [(s, st 1 s, (rollS σ st s).2.1)]).length : Nat) : Int) = tr.length + 1 := by
    rw [List.length_append]; simp
  have eP : pathT (tr ++ [(s, st 1 s, (rollS σ st s).2.1)]) = (if h m 13 = 0 then pathT tr else pathT tr ++ cellsOf (rollS σ st s).2.1) := by
    cases tr with
    | nil => rw [if_neg (show ¬ h m 13 = 0 by rw [e13]; decide)]; rfl
    | cons x tr => rw [if_pos e13]; rfl
  refine ⟨u1, ⟨u2, u3, u4, ?_, ?_, ?_, u8, u9, ?_⟩, u10⟩
  · rw [eE, eL, eP]; exact u5
  · rw [eE, etop_app, u6, e7]
  · rw [u7]; cases tr <;> rfl
  · rw [eE]; exact u11
theorem q_push64 {σ : zH} (w : WS σ) {d : Nat} {a T m x4 x5 x6 x7 : Int} (hm : MA m) {Q : zV → zH → Prop} : ∀ (f : Nat), f ≤ 10 → ∀ {st h : zH} {tr : zTr} {s : Int}, PI σ tr st a T m h → (s = -1 ∨ (0 ≤ s ∧ s < nS σ) ∧ st 1 s ≠ -1) →
    (∀ h', PI σ (tr ++ (drvB σ f st s).2) (drvB σ f st s).1 a T m h' → (∀ r, ¬ (T ≤ r ∧ r < T + 8 ∨ m ≤ r ∧ r < m + 3) → h' r = h r) → zWp (l_Mover_pushSome_9 (d + 3) m x4 x5 x6 (w32 (x7 + 1)) h') Q) →
    zWp (l_Mover_pushSome_64 (d + 3) m x4 x5 x6 x7 s (10 - f) h) Q
  | 0, _, st, h, tr, s, pi, hs, k => by
    rw [el_Mover_pushSome_64]
    refine zWp_nt (by omega) (k h ?_ (fun _ _ => rfl))
    show PI σ (tr ++ []) st a T m h
    rw [List.append_nil]; exact pi
  | f + 1, hf, st, h, tr, s, pi, hs, k => by
    have hml := hm.low
    rw [el_Mover_pushSome_64]
    refine zWp_it (by omega) ?_
    by_cases e : s = -1
    · refine zWp_it e (k h ?_ (fun _ _ => rfl))
      have : drvB σ (f + 1) st s = (st, []) := by unfold drvB; rw [if_pos e]
      rw [this]
      show PI σ (tr ++ []) st a T m h
      rw [List.append_nil]; exact pi
    · have hs1 : (0 ≤ s ∧ s < nS σ) ∧ st 1 s ≠ -1 := by
        rcases hs with z | z
        · exact absurd z e
        · exact z
      refine zWp_nt e (zWp_po (by omega) ?_)
      obtain ⟨v, h1, ev, rfl, pi1, fr1⟩ := q_roll1 (d := d) w hm hs1.1 hs1.2 pi
      refine zWp_qi ev ?_
      rw [show w32 (10 - ((f + 1 : Nat) : Int) + 1) = 10 - (f : Int) by rw [w32_i (by omega)]; omega]
      have hD : drvB σ (f + 1) st s = ((drvB σ f (rollS σ st s).1 (pushed σ (rollS σ st s))).1, (s, st 1 s, (rollS σ st s).2.1) :: (drvB σ f (rollS σ st s).1 (pushed σ (rollS σ st s))).2) := by rw [drvB, if_neg e]
      refine q_push64 w hm f (by omega) pi1 (pushed_ok w.2.1.2.2.1) (fun h' p' f' => k h' ?_ (fun r hr => (f' r hr).trans (fr1 r hr)))
      rw [hD]
      rw [List.append_assoc] at p'
      exact p'
