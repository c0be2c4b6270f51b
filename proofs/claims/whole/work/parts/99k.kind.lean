/-! which statement comes, and the statement whole, in the class -/
def mostA (σ : zH) (k : Int) : Int := if k = 0 then 1 else if k = 1 then σ 0 1 else if k = 2 then 100 else if k = 4 then 6 else if k = 5 then 100 else if k = 7 then 10 else if k = 10 then 8 else if k = 12 then 16 else if k = 13 then 6 else if k = 15 then 9 else if k = 16 then 8 else -1
theorem q_most {d : Nat} {A : List zTk} {b : Int} {σ : zH} {s : zRd} {h : zH} (c : PC A b σ s h) (k : Int) : m_SlopeReader_mostOf (d + 1) 4 k h = some (.inl (mostA σ k), h) := by
  have ha := c.a
  rw [em_SlopeReader_mostOf, c.2.2.1, c.2.1.z]
  unfold mostA
  by_cases e0 : k = 0
  · rw [zit_t e0, if_pos e0]
  rw [zit_f e0, if_neg e0]
  by_cases e1 : k = 1
  · rw [zit_t e1, if_pos e1, zpo_t (by decide), zpo_t (by omega)]
  rw [zit_f e1, if_neg e1]
  by_cases e2 : k = 2
  · rw [zit_t e2, if_pos e2]
  rw [zit_f e2, if_neg e2]
  by_cases e3 : k = 3
  · rw [zit_t e3, if_neg (by omega), if_neg (by omega), if_neg (by omega), if_neg (by omega), if_neg (by omega), if_neg (by omega), if_neg (by omega), if_neg (by omega)]
  rw [zit_f e3]
  by_cases e4 : k = 4
  · rw [zit_t e4, if_pos e4]
  rw [zit_f e4, if_neg e4]
  by_cases e5 : k = 5
  · rw [zit_t e5, if_pos e5]
  rw [zit_f e5, if_neg e5]
  by_cases e6 : k = 6
  · rw [zit_t e6, if_neg (by omega), if_neg (by omega), if_neg (by omega), if_neg (by omega), if_neg (by omega), if_neg (by omega)]
  rw [zit_f e6]
  by_cases e7 : k = 7
  · rw [zit_t e7, if_pos e7]
  rw [zit_f e7, if_neg e7]
  by_cases e8 : k = 8
  · rw [zit_t e8, if_neg (by omega), if_neg (by omega), if_neg (by omega), if_neg (by omega), if_neg (by omega)]
  rw [zit_f e8]
  by_cases e9 : k = 9
  · rw [zit_t e9, if_neg (by omega), if_neg (by omega), if_neg (by omega), if_neg (by omega), if_neg (by omega)]
  rw [zit_f e9]
  by_cases e10 : k = 10
  · rw [zit_t e10, if_pos e10]
  rw [zit_f e10, if_neg e10]
  by_cases e11 : k = 11
  · rw [zit_t e11, if_neg (by omega), if_neg (by omega), if_neg (by omega), if_neg (by omega)]
  rw [zit_f e11]
  by_cases e12 : k = 12
  · rw [zit_t e12, if_pos e12]
  rw [zit_f e12, if_neg e12]
  by_cases e13 : k = 13
  · rw [zit_t e13, if_pos e13]
  rw [zit_f e13, if_neg e13]
  by_cases e14 : k = 14
  · rw [zit_t e14, if_neg (by omega), if_neg (by omega)]
  rw [zit_f e14]
  by_cases e15 : k = 15
  · rw [zit_t e15, if_pos e15]
  rw [zit_f e15, if_neg e15]
  by_cases e16 : k = 16
  · rw [zit_t e16, if_pos e16]
  · rw [zit_f e16, if_neg e16]
/-- the word that comes: its number, or -1 -/
def owS (A : List zTk) (s : zRd) : Int := if kdS A s = 2 then (tkI A s.1).2.2.1 else -1
def kndS (A : List zTk) (σ : zH) (F : Int) (s : zRd) : Int × zRd :=
  if mostA σ (owS A s) = -1 ∨ ¬ F = (if owS A s = 0 then 1 else 0) then (-1, flS 1 (unf (tkI A s.1)) s) else if σ 8 (owS A s) < mostA σ (owS A s) then (owS A s, advS s) else (-1, flS 5 (tkI A s.1).2.1 s)
theorem most_k {σ : zH} {k : Int} (h : mostA σ k ≠ -1) : k = 0 ∨ k = 1 ∨ k = 2 ∨ k = 4 ∨ k = 5 ∨ k = 7 ∨ k = 10 ∨ k = 12 ∨ k = 13 ∨ k = 15 ∨ k = 16 := by
  by_cases z : k = 0 ∨ k = 1 ∨ k = 2 ∨ k = 4 ∨ k = 5 ∨ k = 7 ∨ k = 10 ∨ k = 12 ∨ k = 13 ∨ k = 15 ∨ k = 16
  · exact z
  · refine absurd ?_ h
    unfold mostA
    rw [if_neg (by omega), if_neg (by omega), if_neg (by omega), if_neg (by omega), if_neg (by omega), if_neg (by omega), if_neg (by omega), if_neg (by omega), if_neg (by omega), if_neg (by omega), if_neg (by omega)]
theorem q_kn47 {d : Nat} {A : List zTk} {b : Int} {σ : zH} {s : zRd} {h : zH} (c : PC A b σ s h) : zWp (l_SlopeReader_needKind_47 (d + 1) 4 h) (fun v h' => ∃ a, v = .inl a ∧ a = -1 ∧ PC A b σ (flS 1 (unf (tkI A s.1)) s) h' ∧ frP b h h') := by
  rw [el_SlopeReader_needKind_47, show (4 + 1 : Int) = 5 from rfl]
  refine zWp_po (by decide) (zWp_po (by decide) (zWp_po (by decide) (zWp_po (by decide) (b_fl c (by decide) (fun h1 c1 f1 => zWp_s ⟨_, rfl, rfl, ?_, f1⟩)))))
  rw [flS_p (q := unf (tkI A s.1)) (fun f => (c.1.2.2 f).2.2.2.1)] at c1
  exact c1
theorem q_kn22 {d : Nat} {A : List zTk} {b F : Int} {σ : zH} {s : zRd} {h : zH} (ok : AOk A) (c : PC A b σ s h) : zWp (l_SlopeReader_needKind_22 (d + 1) 4 F (owS A s) h) (fun v h' => ∃ a, v = .inl a ∧ a = (kndS A σ F s).1 ∧ PC A b σ (kndS A σ F s).2 h' ∧ frP b h h') := by
  have ha := c.a
  rw [el_SlopeReader_needKind_22]
  refine zWp_po (by decide) (zWp_qi (q_most (d := d) c _) ?_)
  unfold kndS
  by_cases z1 : mostA σ (owS A s) = -1
  · rw [if_pos (c := mostA σ (owS A s) = -1 ∨ ¬ F = (if owS A s = 0 then 1 else 0)) (Or.inl z1)]
    exact zWp_it z1 (q_kn47 c)
  have kk := most_k z1
  have m : zWp (l_SlopeReader_needKind_44 (d + 1) 4 (owS A s) (mostA σ (owS A s)) (if owS A s = 0 then 1 else 0) F h) (fun v h' => ∃ a, v = .inl a ∧ a = (if mostA σ (owS A s) = -1 ∨ ¬ F = (if owS A s = 0 then 1 else 0) then (-1, flS 1 (unf (tkI A s.1)) s) else if σ 8 (owS A s) < mostA σ (owS A s) then (owS A s, advS s) else (-1, flS 5 (tkI A s.1).2.1 s)).1 ∧ PC A b σ (if mostA σ (owS A s) = -1 ∨ ¬ F = (if owS A s = 0 then 1 else 0) then (-1, flS 1 (unf (tkI A s.1)) s) else if σ 8 (owS A s) < mostA σ (owS A s) then (owS A s, advS s) else (-1, flS 5 (tkI A s.1).2.1 s)).2 h' ∧ frP b h h') := by
    rw [el_SlopeReader_needKind_44]
    by_cases z2 : F = (if owS A s = 0 then 1 else 0)
    case neg =>
      rw [if_pos (c := mostA σ (owS A s) = -1 ∨ ¬ F = (if owS A s = 0 then 1 else 0)) (Or.inr z2)]
      exact zWp_nt z2 (q_kn47 c)
    rw [if_neg (c := mostA σ (owS A s) = -1 ∨ ¬ F = (if owS A s = 0 then 1 else 0)) (fun y => by rcases y with y | y; exact z1 y; exact y z2), c.2.2.1, c.2.1.g 8 (by decide), show (4 + 1 : Int) = 5 from rfl]
    have k2 : kdS A s = 2 := by
      by_cases y : kdS A s = 2
      · exact y
      · have : owS A s = -1 := by unfold owS; rw [if_neg y]
        omega
    have f := kd_0 k2 (by decide)
    refine zWp_it z2 (zWp_po (by decide) (zWp_po (by omega) (zWp_po (by omega) (zWp_it (by omega) ?_))))
    by_cases z3 : σ 8 (owS A s) < mostA σ (owS A s)
    · rw [if_pos (c := σ 8 (owS A s) < mostA σ (owS A s)) (t := ((owS A s, advS s) : Int × zRd)) z3]
      exact zWp_it z3 (zWp_po (by decide) (zWp_po (by decide) (zWp_bv (q_adv (d := d) ok c.1 (fun _ => by rw [f.2]; decide)) (fun _ h1 u => zWp_s ⟨_, rfl, rfl, c.fA u.1 u.2, u.2.p b⟩))))
    · rw [if_neg (c := σ 8 (owS A s) < mostA σ (owS A s)) (t := ((owS A s, advS s) : Int × zRd)) z3, (c.1.2.2 f.1).2.1]
      exact zWp_nt z3 (zWp_po (by decide) (zWp_po (by decide) (zWp_po (by decide) (zWp_po (by decide) (b_fl c (by decide) (fun h1 c1 f1 => zWp_s ⟨_, rfl, rfl, c1, f1⟩))))))
  refine zWp_nt z1 ?_
  by_cases z0 : owS A s = 0
  · rw [if_pos (c := owS A s = 0) (t := (1 : Int)) z0] at m ⊢
    exact zWp_it z0 m
  · rw [if_neg (c := owS A s = 0) (t := (1 : Int)) z0] at m ⊢
    exact zWp_nt z0 m
theorem b_kn {d : Nat} {A : List zTk} {b F : Int} {σ : zH} {s : zRd} {h : zH} {f : Int → zH → zR} {Q : zV → zH → Prop} (ok : AOk A) (c : PC A b σ s h) (k : ∀ h', PC A b σ (kndS A σ F s).2 h' → frP b h h' → zWp (f (kndS A σ F s).1 h') Q) : zWp (zqi (m_SlopeReader_needKind (d + 2) 4 F h) f) Q := by
  refine zWp_bi (P := fun x h' => x = (kndS A σ F s).1 ∧ PC A b σ (kndS A σ F s).2 h' ∧ frP b h h') ?_ (fun x h1 u => by rw [u.1]; exact k h1 u.2.1 u.2.2)
  have m := q_kn22 (d := d) (F := F) ok c
  rw [em_SlopeReader_needKind, show (4 + 1 : Int) = 5 from rfl, c.1.k]
  refine zWp_po (by decide) (zWp_po (by decide) ?_)
  by_cases z : kdS A s = 2
  · have e : owS A s = (tkI A s.1).2.2.1 := by unfold owS; rw [if_pos z]
    rw [e, ← (c.1.2.2 (kd_0 z (by decide)).1).2.2.1] at m
    exact zWp_it z (zWp_po (by decide) (zWp_po (by decide) m))
  · have e : owS A s = -1 := by unfold owS; rw [if_neg z]
    rw [e] at m
    exact zWp_nt z m
def bodS (A : List zTk) (σ : zH) (k : Int) (s : zRd) : zH × zRd :=
  if k = 0 then sField A σ s else if k = 1 then sRow A σ s else if k = 2 then sRough A σ s else if k = 4 then (zset σ 9 (nO σ) (newS A σ s).1, (newS A σ s).2) else if k = 5 then sLand A σ s else if k = 7 then sStone A (nS σ) σ s else if k = 10 then sHouse A (nHo σ) σ s else if k = 12 then sWall A σ s else if k = 13 then sThaw A (nT σ) σ s else (zset σ 20 (nRo σ) (nbS A 1 9999 s).1, (nbS A 1 9999 s).2)
def endS (A : List zTk) (k : Int) (x : zH × zRd) : zH × zRd := (zset x.1 8 k (w32 (x.1 8 k + 1)), ndS A 4 59 x.2)
def stmS (A : List zTk) (F : Int) (σ : zH) (s : zRd) : zH × zRd := if (kndS A σ F s).1 = -1 then (σ, (kndS A σ F s).2) else endS A (kndS A σ F s).1 (bodS A σ (kndS A σ F s).1 (kndS A σ F s).2)
theorem q_st254 {d : Nat} {A : List zTk} {b k : Int} {x : zH × zRd} {h : zH} (ok : AOk A) (c : PC A b x.1 x.2 h) (hk : 0 ≤ k ∧ k < 26) : zWp (l_SlopeReader_readStatement_254 (d + 2) 4 k h) (fun _ h' => PC A b (endS A k x).1 (endS A k x).2 h' ∧ frP b h h') := by
  have ha := c.a
  rw [el_SlopeReader_readStatement_254, show (4 + 1 : Int) = 5 from rfl]
  refine zWp_po (by decide) (zWp_po (by decide) (b_sg ok c (fun h1 c1 f1 => ?_)))
  rw [c1.2.2.1, c1.2.1.g 8 (by decide)]
  refine zWp_po (by decide) (zWp_po (by omega) (zWp_po (by omega) (zWp_it (by omega) (zWp_po (by omega) (zWp_it (by omega) (zWp_lt fun h2 e2 => zWp_s ?_))))))
  have t := c1.st (k := 8) (i := k) (v := w32 (x.1 8 k + 1)) ⟨by decide, by decide, by decide⟩
  rw [← e2] at t
  exact ⟨t.1, f1.t t.2⟩
theorem q_stmt {d : Nat} {A : List zTk} {b F : Int} {σ : zH} {s : zRd} {h : zH} (ok : AOk A) (w : WB σ) (hr : 0 ≤ σ 8 1) (c : PC A b σ s h) (nl : (kndS A σ F s).1 ≠ 16) : zWp (m_SlopeReader_readStatement (d + 6) 4 F h) (fun _ h' => PC A b (stmS A F σ s).1 (stmS A F σ s).2 h' ∧ frP b h h') := by
  have ha := c.a
  rw [em_SlopeReader_readStatement, show (4 + 1 : Int) = 5 from rfl, show (4 + 6 : Int) = 10 from rfl]
  refine zWp_po (by decide) (b_kn (d := d + 3) ok c (fun h1 c1 f1 => ?_))
  unfold stmS
  have kl : (kndS A σ F s).1 ≠ -1 → mostA σ (kndS A σ F s).1 ≠ -1 ∧ σ 8 (kndS A σ F s).1 < mostA σ (kndS A σ F s).1 := by
    intro z
    unfold kndS at z ⊢
    by_cases y1 : mostA σ (owS A s) = -1 ∨ ¬ F = (if owS A s = 0 then 1 else 0)
    · rw [if_pos y1] at z; exact absurd rfl z
    rw [if_neg y1] at z ⊢
    by_cases y2 : σ 8 (owS A s) < mostA σ (owS A s)
    · rw [if_pos y2]
      exact ⟨fun y => y1 (Or.inl y), y2⟩
    · rw [if_neg y2] at z; exact absurd rfl z
  generalize kndS A σ F s = kk at *
  by_cases z : kk.1 = -1
  · rw [z]
    refine zWp_nt (by decide) (zWp_nt (by decide) (zWp_nt (by decide) (zWp_nt (by decide) (zWp_nt (by decide) (zWp_nt (by decide) (zWp_nt (by decide) (zWp_nt (by decide) (zWp_nt (by decide) (zWp_nt (by decide) (zWp_nt (by decide) (zWp_nt (by decide) (zWp_nt (by decide) (zWp_nt (by decide) (zWp_nt (by decide) (zWp_nt (by decide) (zWp_nt (by decide) (zWp_s ⟨?_, f1⟩)))))))))))))))))
    rw [if_pos rfl]
    exact c1
  have kb := kl z
  have km := most_k kb.1
  have fin : ∀ X, bodS A σ kk.1 kk.2 = X → ∀ h2, PC A b X.1 X.2 h2 → frP b h1 h2 → zWp (l_SlopeReader_readStatement_254 (d + 5) 4 kk.1 h2) (fun _ h' => PC A b (if kk.1 = -1 then (σ, kk.2) else endS A kk.1 (bodS A σ kk.1 kk.2)).1 (if kk.1 = -1 then (σ, kk.2) else endS A kk.1 (bodS A σ kk.1 kk.2)).2 h' ∧ frP b h h') := by
    intro X eX h2 c2 f2
    rw [if_neg z, eX]
    exact zWp_m (q_st254 (d := d + 3) ok c2 (by omega)) (fun _ h' u => ⟨u.1, (f1.t f2).t u.2⟩)
  have eB : bodS A σ kk.1 kk.2 = bodS A σ kk.1 kk.2 := rfl
  conv at eB => rhs; unfold bodS
  by_cases e0 : kk.1 = 0
  · rw [if_pos (c := kk.1 = 0) (t := sField A σ kk.2) e0] at eB
    exact zWp_it e0 (zWp_po (by decide) (zWp_bv (q_sField (d := d + 2) ok c1) (fun _ h2 u => fin _ eB h2 u.1 u.2)))
  rw [if_neg (c := kk.1 = 0) (t := sField A σ kk.2) e0] at eB
  refine zWp_nt e0 ?_
  by_cases e1 : kk.1 = 1
  · rw [if_pos (c := kk.1 = 1) (t := sRow A σ kk.2) e1] at eB
    have kb2 := kb.2
    rw [e1] at kb2
    exact zWp_it e1 (zWp_po (by decide) (zWp_bv (q_sRow (d := d + 2) ok w c1 ⟨hr, kb2⟩) (fun _ h2 u => fin _ eB h2 u.1 u.2)))
  rw [if_neg (c := kk.1 = 1) (t := sRow A σ kk.2) e1] at eB
  refine zWp_nt e1 ?_
  by_cases e2 : kk.1 = 2
  · rw [if_pos (c := kk.1 = 2) (t := sRough A σ kk.2) e2] at eB
    exact zWp_it e2 (zWp_po (by decide) (zWp_bv (q_sRough (d := d + 1) ok w c1) (fun _ h2 u => fin _ eB h2 u.1 u.2)))
  rw [if_neg (c := kk.1 = 2) (t := sRough A σ kk.2) e2] at eB
  refine zWp_nt e2 (zWp_nt (by omega) ?_)
  by_cases e4 : kk.1 = 4
  · rw [if_pos (c := kk.1 = 4) (t := ((zset σ 9 (nO σ) (newS A σ kk.2).1, (newS A σ kk.2).2) : zH × zRd)) e4] at eB
    have e12 : h1 (b + 12) 0 = b + 9 := by rw [c1.2.1.g 12 (by decide), c1.2.2.2 0 (by decide) (by decide)]; omega
    have e8 : h1 (b + 8) 4 = nO σ := c1.2.1.g 8 (by decide)
    have w2 := w.2
    rw [c1.2.2.1, e12, e8]
    refine zWp_it e4 (zWp_po (by decide) (zWp_po (by omega) (zWp_po (by omega) (zWp_it (by decide) (zWp_po (by decide) (zWp_po (by omega) (zWp_po (by omega) (zWp_it (by decide) (zWp_po (by decide) (b_nn ok w c1 (fun h2 c2 f2 => zWp_po (by omega) (zWp_it (by omega) (zWp_lt fun h3 e3 => ?_)))))))))))))
    have t := c2.st (k := 9) (i := nO σ) (v := (newS A σ kk.2).1) ⟨by decide, by decide, by decide⟩
    rw [← e3] at t
    exact fin _ eB h3 t.1 (f2.t t.2)
  rw [if_neg (c := kk.1 = 4) (t := ((zset σ 9 (nO σ) (newS A σ kk.2).1, (newS A σ kk.2).2) : zH × zRd)) e4] at eB
  refine zWp_nt e4 ?_
  by_cases e5 : kk.1 = 5
  · rw [if_pos (c := kk.1 = 5) (t := sLand A σ kk.2) e5] at eB
    exact zWp_it e5 (zWp_po (by decide) (zWp_bv (q_sLand (d := d + 1) ok w c1) (fun _ h2 u => fin _ eB h2 u.1 u.2)))
  rw [if_neg (c := kk.1 = 5) (t := sLand A σ kk.2) e5] at eB
  refine zWp_nt e5 (zWp_nt (by omega) ?_)
  by_cases e7 : kk.1 = 7
  · rw [if_pos (c := kk.1 = 7) (t := sStone A (nS σ) σ kk.2) e7] at eB
    have e8 : h1 (b + 8) 7 = nS σ := c1.2.1.g 8 (by decide)
    have w2 := w.2
    have kb2 : σ 8 kk.1 < mostA σ kk.1 := kb.2
    rw [e7] at kb2
    have kb3 : nS σ < 10 := kb2
    rw [c1.2.2.1, e8]
    exact zWp_it e7 (zWp_po (by decide) (zWp_po (by omega) (zWp_po (by omega) (zWp_it (by decide) (zWp_po (by decide) (zWp_bv (q_sStone (d := d) ok w c1 ⟨by omega, kb3⟩) (fun _ h2 u => fin _ eB h2 u.1 u.2)))))))
  rw [if_neg (c := kk.1 = 7) (t := sStone A (nS σ) σ kk.2) e7] at eB
  refine zWp_nt e7 (zWp_nt (by omega) (zWp_nt (by omega) ?_))
  by_cases e10 : kk.1 = 10
  · rw [if_pos (c := kk.1 = 10) (t := sHouse A (nHo σ) σ kk.2) e10] at eB
    have e8 : h1 (b + 8) 10 = nHo σ := c1.2.1.g 8 (by decide)
    have w2 := w.2
    have kb2 : σ 8 kk.1 < mostA σ kk.1 := kb.2
    rw [e10] at kb2
    have kb3 : nHo σ < 8 := kb2
    rw [c1.2.2.1, e8]
    exact zWp_it e10 (zWp_po (by decide) (zWp_po (by omega) (zWp_po (by omega) (zWp_it (by decide) (zWp_po (by decide) (zWp_bv (q_sHouse (d := d) ok w c1 ⟨by omega, kb3⟩) (fun _ h2 u => fin _ eB h2 u.1 u.2)))))))
  rw [if_neg (c := kk.1 = 10) (t := sHouse A (nHo σ) σ kk.2) e10] at eB
  refine zWp_nt e10 (zWp_nt (by omega) ?_)
  by_cases e12 : kk.1 = 12
  · rw [if_pos (c := kk.1 = 12) (t := sWall A σ kk.2) e12] at eB
    exact zWp_it e12 (zWp_po (by decide) (zWp_bv (q_sWall (d := d) ok w c1) (fun _ h2 u => fin _ eB h2 u.1 u.2)))
  rw [if_neg (c := kk.1 = 12) (t := sWall A σ kk.2) e12] at eB
  refine zWp_nt e12 ?_
  by_cases e13 : kk.1 = 13
  · rw [if_pos (c := kk.1 = 13) (t := sThaw A (nT σ) σ kk.2) e13] at eB
    have e8 : h1 (b + 8) 13 = nT σ := c1.2.1.g 8 (by decide)
    have w2 := w.2
    have kb2 : σ 8 kk.1 < mostA σ kk.1 := kb.2
    rw [e13] at kb2
    have kb3 : nT σ < 6 := kb2
    rw [c1.2.2.1, e8]
    exact zWp_it e13 (zWp_po (by decide) (zWp_po (by omega) (zWp_po (by omega) (zWp_it (by decide) (zWp_po (by decide) (zWp_bv (q_sThaw (d := d + 2) ok c1 ⟨by omega, kb3⟩) (fun _ h2 u => fin _ eB h2 u.1 u.2)))))))
  rw [if_neg (c := kk.1 = 13) (t := sThaw A (nT σ) σ kk.2) e13] at eB
  have e15 : kk.1 = 15 := by omega
  have e8 : h1 (b + 8) 15 = nRo σ := c1.2.1.g 8 (by decide)
  have w2 := w.2
  have kb2 : σ 8 kk.1 < mostA σ kk.1 := kb.2
  rw [e15] at kb2
  have kb3 : nRo σ < 9 := kb2
  rw [c1.2.2.1, e8]
  refine zWp_nt e13 (zWp_nt (by omega) (zWp_it e15 (zWp_po (by decide) (zWp_po (by omega) (zWp_po (by decide) (zWp_po (by omega) (zWp_po (by omega) (zWp_it (by decide) (zWp_po (by decide) (zWp_po (by decide) (b_nb (d := d + 3) ok c1 (fun h2 c2 f2 => zWp_po (by omega) (zWp_it (by omega) (zWp_lt fun h3 e3 => ?_))))))))))))))
  have t := c2.st (k := 20) (i := nRo σ) (v := (nbS A 1 9999 kk.2).1) ⟨by decide, by decide, by decide⟩
  rw [← e3] at t
  exact fin _ eB h3 t.1 (f2.t t.2)
