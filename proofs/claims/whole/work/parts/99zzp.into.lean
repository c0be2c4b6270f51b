/-! the class reads a text, but for where stones roll from each cell -/
def outY (A : List zTk) (σ : zH) : Nat × zS4 := if (tkI A 0).1 = 0 then (0, (σ, dS A (0, 0, -1), ([], []), ([], []))) else lpY A 99 1 (fieldY A σ (0, 0, -1))
theorem z0_wb {σ : zH} (z : Z0 σ) : WB σ := by
  have e : ∀ j, 0 ≤ j → j < 26 → σ 8 j = 0 := z.2.1
  have n : nC σ = 0 := by unfold nC; rw [z.1.1]; exact Int.zero_mul _
  refine ⟨⟨by rw [z.1.1]; decide, by rw [z.1.1]; decide, by rw [z.1.2]; decide, by rw [z.1.2]; decide, by rw [n]; decide⟩, ?_⟩
  have e4 : nO σ = 0 := e 4 (by decide) (by decide)
  have e7 : nS σ = 0 := e 7 (by decide) (by decide)
  have e10 : nHo σ = 0 := e 10 (by decide) (by decide)
  have e13 : nT σ = 0 := e 13 (by decide) (by decide)
  have e15 : nRo σ = 0 := e 15 (by decide) (by decide)
  have e16 : nLa σ = 0 := e 16 (by decide) (by decide)
  rw [e4, e7, e10, e13, e15, e16]
  decide
theorem PCY.fl {A : List zTk} {b : Int} {x : zS4} {h : zH} {d : Nat} {f : zH → zR} {Q : zV → zH → Prop} {w p : Int} (c : PCY A b x h) (hw : w ≠ 0) (k : ∀ h', PCY A b (x.1, flS w p x.2.1, x.2.2) h' → frPY b h h' → zWp (f h') Q) : zWp (zqv (m_Tokens_fail (d + 1) 5 w p h) f) Q := by
  have ha := c.1.a
  refine zWp_bv (q_fail (d := d) c.1.1 hw) (fun _ h1 u => k h1 ⟨c.1.fA u.1 u.2, c.2.f (fun r r1 r2 => u.2.1 r (by omega))⟩ ⟨fun r hr => u.2.1 r (by omega), fun q _ => by rw [u.2.1 _ (by omega)]⟩)
/-- the end: fin = the reader behind all -/
theorem q_91 {d : Nat} {A : List zTk} {b N : Int} {x : zS4} {h : zH} {Q : zV → zH → Prop} (c : PCY A b x h) (k : ∀ h', PCY A b (x.1, finS A x.2.1, x.2.2) h' → frPY b h h' → zWp (l_SlopeReader_readInto_116 (d + 1) 4 N h') Q) : zWp (l_SlopeReader_readInto_91 (d + 1) 4 N h) Q := by
  rw [el_SlopeReader_readInto_91, show (4 + 1 : Int) = 5 from rfl, c.1.1.k]
  refine zWp_po (by decide) (zWp_po (by decide) ?_)
  by_cases z : kdS A x.2.1 = 0
  · have e : finS A x.2.1 = x.2.1 := by unfold finS; rw [if_pos z]
    rw [e] at k
    exact zWp_it z (k h c (frPY.rf b h))
  · have e : finS A x.2.1 = flS 5 (tkI A x.2.1.1).2.1 x.2.1 := by unfold finS; rw [if_neg z]
    rw [e, flS_p (p := (tkI A x.2.1.1).2.1) (q := h 5 7) (fun f => ((c.1.1.2.2 f).2.1).symm)] at k
    exact zWp_nt z (zWp_po (by decide) (zWp_po (by decide) (zWp_po (by decide) (zWp_po (by decide) (PCY.fl c (by decide) k)))))
theorem lpY_ge {A : List zTk} : ∀ (f n : Nat) (x : zS4), n ≤ (lpY A f n x).1
  | 0, n, x => Nat.le_refl _
  | f + 1, n, x => by
    rw [lpY]
    split
    · exact Nat.le_trans (Nat.le_succ n) (lpY_ge f (n + 1) _)
    · exact Nat.le_refl _
theorem q_into {d : Nat} {T : Int → Int} {n b : Int} {h : zH} {Q : zV → zH → Prop} (hb : b = 11 ∨ b = 39) (h12 : ∀ i, 0 ≤ i → i < 3 → h (b + 12) i = b + 9 + i) (hn : 0 ≤ n ∧ n ≤ 1600) (hT : ∀ j, 0 ≤ j → j < n → h 1 j = T j) (ow : ∀ i : Nat, i < 26 → h 6 (i : Int) = ownW.getD i 0)
    (k : ∀ (σ : zH) (h' : zH), Z0 σ → PCY (toks T n) b ((outY (toks T n) σ).2.1, finS (toks T n) (outY (toks T n) σ).2.2.1, (outY (toks T n) σ).2.2.2) h' → (∀ r, ¬ (r = 4 ∨ r = 5 ∨ 7 ≤ r ∧ r ≤ 10 ∨ b ≤ r ∧ r ≤ b + 25) → h' r = h r) → (∀ q, q ≠ 2 → h' 4 q = h 4 q) → zWp (l_SlopeReader_readInto_116 (d + 44) 4 ((outY (toks T n) σ).1 : Int) h') Q) : zWp (m_SlopeReader_readInto (d + 45) 1600 4 b 1 n h) Q := by
  have ok := toks_ok (T := T) hn
  rw [em_SlopeReader_readInto, show (4 + 1 : Int) = 5 from rfl]
  refine zWp_po (by decide) (zWp_lt fun h1 e1 => ?_)
  have r1 : ∀ r, r ≠ 4 → h1 r = h r := fun r hr => by rw [e1, zset_n hr]
  have k1 : h1 4 2 = b := by rw [e1, zset_e]
  rw [k1]
  refine zWp_po (by decide) (zWp_po (by omega) (zWp_bv (q_sclear (d := d + 42) hb (fun i i1 i2 => by rw [r1 _ (by omega)]; exact h12 i i1 i2)) (fun _ h2 u2 => zWp_po (by decide) (zWp_po (by decide) ?_))))
  obtain ⟨σ, cs, z, s12, fr2, l1, l5⟩ := u2
  refine zWp_bv (q_tbegin (d := d + 40) (T := T) hn (fun j j1 j2 => by rw [fr2 1 (by omega), r1 1 (by decide)]; exact hT j j1 j2) (fun i hi => by rw [fr2 6 (by omega), r1 6 (by decide)]; exact ow i hi)) (fun _ h3 u3 => ?_)
  have p3 : PC (toks T n) b σ (0, 0, -1) h3 := by
    refine ⟨u3.1, ⟨cs.1, fun kk i q1 q2 => ?_⟩, ?_, s12⟩
    · rw [u3.2.1 (b + kk) (by omega)]; exact cs.2 kk i q1 q2
    · rw [u3.2.1 4 (by decide), fr2 4 (by omega)]; exact k1
  have bk3 : BkM ([], []) b h3 := by
    refine ⟨⟨by rw [u3.2.1 _ (by omega)]; exact l1, by decide, fun j x hj => by cases hj⟩, by rw [u3.2.1 _ (by omega)]; exact l5, fun j a m e hj => by cases hj⟩
  have f3 : ∀ h', frPY b h3 h' → (∀ r, ¬ (r = 4 ∨ r = 5 ∨ 7 ≤ r ∧ r ≤ 10 ∨ b ≤ r ∧ r ≤ b + 25) → h' r = h r) ∧ (∀ q, q ≠ 2 → h' 4 q = h 4 q) := by
    intro h' f
    refine ⟨fun r hr => by rw [f.1 r (by omega), u3.2.1 r (by omega), fr2 r (by omega), r1 r (by omega)], fun q hq => ?_⟩
    rw [f.1 4 (by omega), u3.2.1 4 (by decide), fr2 4 (by omega), e1, zset_j hq]
  have t := u3.1
  have ek : kdS (toks T n) (0, 0, -1) = (tkI (toks T n) 0).1 := by unfold kdS; rw [if_pos rfl]
  rw [el_SlopeReader_readInto_24, show (4 + 1 : Int) = 5 from rfl, show h3 5 11 = 0 from t.2.1.1, t.k, ek]
  refine zWp_it (by decide) (zWp_po (by decide) (zWp_po (by decide) (zWp_it rfl (zWp_po (by decide) (zWp_po (by decide) ?_)))))
  have kk := k σ
  unfold outY at kk
  by_cases c : (tkI (toks T n) 0).1 = 0
  · rw [if_pos c] at kk
    refine zWp_it c ?_
    rw [el_SlopeReader_readInto_71, show (4 + 1 : Int) = 5 from rfl]
    refine zWp_it rfl (zWp_po (by decide) (zWp_po (by decide) (zWp_po (by decide) (zWp_po (by decide) (PCY.fl (A := toks T n) (x := (σ, (0, 0, -1), ([], []), ([], []))) ⟨p3, bk3⟩ (by decide) (fun h4 p4 f4 => q_91 (d := d + 43) p4 (fun h5 p5 f5 => ?_)))))))
    have es : flS 1 (h3 5 9) ((0, 0, -1) : zRd) = dS (toks T n) (0, 0, -1) := flS_p (fun f => (t.2.2 f).2.2.2.1)
    dsimp only at p5
    rw [es] at p5
    have g := f3 h5 (f4.t f5)
    exact kk h5 z p5 g.1 g.2
  · rw [if_neg c] at kk
    have nl : (kndS (toks T n) σ 1 (0, 0, -1)).1 ≠ 16 := by
      by_cases o : owS (toks T n) (0, 0, -1) = 0
      · rw [((fld z).1 o).1]
        exact show ¬ (0 : Int) = 16 by decide
      · rw [((fld z).2 o).1]
        decide
    refine zWp_nt c (zWp_it rfl (zWp_po (by decide) (zWp_bv (q_stmt (d := d + 38) ok (z0_wb z) (by rw [z.2.1 1 (by decide) (by decide)]; decide) p3 nl) (fun _ h4 u4 => ?_))))
    have p4 : PCY (toks T n) b (fieldY (toks T n) σ (0, 0, -1)) h4 := ⟨u4.1, bk3.f (fun r r1 r2 => u4.2 r (by omega))⟩
    refine q_lpY (d := d) ok 99 1 (fieldY (toks T n) σ (0, 0, -1)) h4 rfl (by decide) p4 (fun y => iy_f z y) (fun h5 p5 f5 => ?_)
    have ge := lpY_ge (A := toks T n) 99 1 (fieldY (toks T n) σ (0, 0, -1))
    rw [el_SlopeReader_readInto_71]
    refine zWp_nt (by omega) (q_91 (d := d + 43) p5 (fun h6 p6 f6 => ?_))
    have g := f3 h6 (((u4.2.y (by omega)).t f5).t f6)
    exact kk h6 z p6 g.1 g.2
