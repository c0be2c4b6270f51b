/-! the class reads laws: sums -/
theorem TC.f5 {A : List zTk} {s : zRd} {h h' : zH} (c : TC A s h) (e : ∀ r, r = 5 ∨ r = 7 ∨ r = 8 ∨ r = 9 → h' r = h r) : TC A s h' := by
  unfold TC TkR at c ⊢
  rw [e 5 (by decide), e 7 (by decide), e 8 (by decide), e 9 (by decide)]
  exact c
theorem LC.t {A : List zTk} {b : Int} {x : zLx} {h : zH} (c : LC A b x h) : h 10 0 = 5 := c.2.2.1.1
theorem LC.k {A : List zTk} {b : Int} {x : zLx} {h : zH} (c : LC A b x h) : h 10 1 = b + 21 := c.2.2.1.2
def LPo (A : List zTk) (b : Int) (h : zH) (x : zLx) : zV → zH → Prop := fun _ h' => LC A b x h' ∧ frLw b h h'
theorem g_put {d : Nat} {A : List zTk} {b : Int} {s : zRd} {C : List Int} {h : zH} {x : Int} {f : zH → zR} {Q : zV → zH → Prop} (c : LC A b (s, C) h) (k : ∀ h', LC A b (s, putA C x) h' → frLw b h h' → zWp (f h') Q) : zWp (zqv (m_LawBook_put (d + 1) (b + 21) x h) f) Q := by
  have hb := c.2.2.2
  refine zWp_bv (q_lput (d := d) (by omega) c.2.1) (fun _ h1 u => k h1 ⟨c.1.f5 (fun r hr => u.2.1 r (by omega)), u.1, by rw [u.2.1 10 (by omega)]; exact c.2.2.1, hb⟩ ⟨fun r hr => u.2.1 r (by omega), u.2.2⟩)
theorem LC.i {d : Nat} {A : List zTk} {b x : Int} {y : zLx} {h : zH} (c : LC A b y h) : m_Tokens_isSign (d + 1) 5 x h = some (.inl (if sgS A 4 x y.1 = true then 1 else 0), h) := q_isSg c.1
theorem LC.o {d : Nat} {A : List zTk} {b x : Int} {y : zLx} {h : zH} (c : LC A b y h) : m_Tokens_isOwn (d + 1) 5 x h = some (.inl (if sgS A 2 x y.1 = true then 1 else 0), h) := q_isOw c.1
theorem sg_k {A : List zTk} {k x : Int} {s : zRd} (hk : k ≠ 5) (h : sgS A k x s = true) : s.2.1 = 0 ∧ (tkI A s.1).1 = k ∧ (tkI A s.1).2.2.1 = x := by
  have g := of_decide_eq_true h
  have f := kd_0 g.1 hk
  exact ⟨f.1, f.2, g.2⟩
theorem q_pcd {d : Nat} {A : List zTk} {b : Int} {x : zLx} {h : zH} (c : LC A b x h) : m_LawReader_productCode (d + 2) 10 h = some (.inl (pdS A x.1), h) := by
  rw [em_LawReader_productCode, zpo_t (by decide), c.t, zpo_t (by decide), c.i]
  unfold pdS
  by_cases c1 : sgS A 4 42 x.1 = true
  · rw [if_pos c1, if_pos c1]; rfl
  rw [if_neg c1, if_neg c1, zqi_s, if_pos rfl, zpo_t (by decide), c.t, zpo_t (by decide), c.i]
  by_cases c2 : sgS A 4 47 x.1 = true
  · rw [if_pos c2, if_pos c2]; rfl
  rw [if_neg c2, if_neg c2, zqi_s, if_pos rfl, zpo_t (by decide), c.t, zpo_t (by decide), c.i]
  by_cases c3 : sgS A 4 37 x.1 = true
  · rw [if_pos c3, if_pos c3]; rfl
  · rw [if_neg c3, if_neg c3]; rfl
theorem pdS_k {A : List zTk} {s : zRd} (h : pdS A s ≠ 0) : s.2.1 = 0 ∧ (tkI A s.1).1 = 4 := by
  unfold pdS at h
  by_cases c1 : sgS A 4 42 s = true
  · exact ⟨(sg_k (by decide) c1).1, (sg_k (by decide) c1).2.1⟩
  rw [if_neg c1] at h
  by_cases c2 : sgS A 4 47 s = true
  · exact ⟨(sg_k (by decide) c2).1, (sg_k (by decide) c2).2.1⟩
  rw [if_neg c2] at h
  by_cases c3 : sgS A 4 37 s = true
  · exact ⟨(sg_k (by decide) c3).1, (sg_k (by decide) c3).2.1⟩
  rw [if_neg c3] at h
  exact absurd rfl h
theorem q_lpP {e : Nat} {A : List zTk} {b op : Int} {g : zLx → zLx} (ok : AOk A) (hp : ∀ x h, LC A b x h → zWp (m_LawReader_readPart (e + 4) 10 op h) (LPo A b h (g x))) : ∀ (f : Nat) (i : Int) (x : zLx) (h : zH), i + f = 1600 → 0 ≤ i → LC A b x h → zWp (l_LawReader_readProduct_7 (e + 4) 10 op i h) (LPo A b h (lpA (pdS A) g f x)) := by
  intro f
  induction f with
  | zero =>
    intro i x h hi h0 c
    rw [el_LawReader_readProduct_7]
    exact zWp_nt (by omega) (zWp_s ⟨c, frLw.rf b h⟩)
  | succ f ih =>
    intro i x h hi h0 c
    obtain ⟨s, C⟩ := x
    rw [el_LawReader_readProduct_7]
    refine zWp_it (by omega) (zWp_po (by decide) (zWp_qi (q_pcd c) ?_))
    by_cases z : pdS A s = 0
    · have ea : lpA (pdS A) g (f + 1) (s, C) = (s, C) := by rw [lpA, if_pos z]
      rw [ea]
      exact zWp_it z (zWp_s ⟨c, frLw.rf b h⟩)
    · have ea : lpA (pdS A) g (f + 1) (s, C) = lpA (pdS A) g f ((g (advS s, C)).1, putA (g (advS s, C)).2 (pdS A s)) := by rw [lpA, if_neg z]
      rw [ea]
      refine zWp_nt z (zWp_po (by decide) (zWp_qi (q_pcd c) (zWp_po (by decide) ?_)))
      rw [c.t]
      refine zWp_po (by decide) (g_av ok c (fun _ => by rw [(pdS_k z).2]; decide) (fun h1 c1 f1 => zWp_po (by decide) (zWp_bv (hp _ h1 c1) (fun _ h2 u2 => zWp_po (by decide) ?_))))
      rw [u2.1.k]
      refine zWp_po (by have := c.2.2.2; omega) (g_put u2.1 (fun h3 c3 f3 => ?_))
      rw [w32_i (x := i + 1) (by omega)]
      exact zWp_m (ih (i + 1) _ h3 (by omega) (by omega) c3) (fun _ h4 u4 => ⟨u4.1, ((f1.t u2.2).t f3).t u4.2⟩)
theorem q_prod {e : Nat} {A : List zTk} {b op : Int} {inn : Option (zLx → zLx)} (ok : AOk A) (hp : ∀ x h, LC A b x h → zWp (m_LawReader_readPart (e + 4) 10 op h) (LPo A b h (ptA A inn x))) {x : zLx} {h : zH} (c : LC A b x h) : zWp (m_LawReader_readProduct (e + 5) 10 op h) (LPo A b h (prA A inn x)) := by
  rw [em_LawReader_readProduct]
  exact zWp_po (by decide) (zWp_bv (hp x h c) (fun _ h1 u1 => zWp_m (q_lpP ok hp 1600 0 _ h1 (by decide) (by decide) u1.1) (fun _ h2 u2 => ⟨u2.1, u1.2.t u2.2⟩)))
theorem q_s57 {e : Nat} {A : List zTk} {b op i w : Int} {g : zLx → zLx} {s : zRd} {C : List Int} {h : zH} {Y : zLx} (ok : AOk A) (hi : 0 ≤ i ∧ i < 1600) (hk : s.2.1 = 0 → (tkI A s.1).1 ≠ 0) (hp : ∀ x h, LC A b x h → zWp (m_LawReader_readProduct (e + 5) 10 op h) (LPo A b h (g x))) (c : LC A b (s, C) h)
    (k : ∀ h', LC A b ((g (advS s, C)).1, putA (g (advS s, C)).2 w) h' → zWp (l_LawReader_readSum_7 (e + 5) 10 op (i + 1) h') (LPo A b h' Y)) : zWp (l_LawReader_readSum_57 (e + 5) 10 op i w h) (LPo A b h Y) := by
  rw [el_LawReader_readSum_57, c.t]
  refine zWp_po (by decide) (zWp_po (by decide) (g_av ok c hk (fun h1 c1 f1 => zWp_po (by decide) (zWp_bv (hp _ h1 c1) (fun _ h2 u2 => zWp_po (by decide) ?_)))))
  rw [u2.1.k]
  refine zWp_po (by have := c.2.2.2; omega) (g_put u2.1 (fun h3 c3 f3 => ?_))
  rw [w32_i (x := i + 1) (by omega)]
  exact zWp_m (k h3 c3) (fun _ h4 u4 => ⟨u4.1, ((f1.t u2.2).t f3).t u4.2⟩)
theorem q_lpS {e : Nat} {A : List zTk} {b op : Int} {g : zLx → zLx} (ok : AOk A) (hp : ∀ x h, LC A b x h → zWp (m_LawReader_readProduct (e + 5) 10 op h) (LPo A b h (g x))) : ∀ (f : Nat) (i : Int) (x : zLx) (h : zH), i + f = 1600 → 0 ≤ i → LC A b x h → zWp (l_LawReader_readSum_7 (e + 5) 10 op i h) (LPo A b h (lpA (smC A) g f x)) := by
  intro f
  induction f with
  | zero =>
    intro i x h hi h0 c
    rw [el_LawReader_readSum_7]
    exact zWp_nt (by omega) (zWp_s ⟨c, frLw.rf b h⟩)
  | succ f ih =>
    intro i x h hi h0 c
    obtain ⟨s, C⟩ := x
    have next : ∀ w, smC A s = w → w ≠ 0 → (s.2.1 = 0 → (tkI A s.1).1 ≠ 0) → zWp (l_LawReader_readSum_57 (e + 5) 10 op i w h) (LPo A b h (lpA (smC A) g (f + 1) (s, C))) := by
      intro w ew w0 hk
      have ea : lpA (smC A) g (f + 1) (s, C) = lpA (smC A) g f ((g (advS s, C)).1, putA (g (advS s, C)).2 w) := by rw [lpA, if_neg (show ¬ smC A s = 0 by rw [ew]; exact w0), ew]
      rw [ea]
      exact q_s57 ok (by omega) hk hp c (fun h' c' => ih (i + 1) _ h' (by omega) (by omega) c')
    rw [el_LawReader_readSum_7, c.t]
    refine zWp_it (by omega) (zWp_po (by decide) (zWp_po (by decide) (zWp_qi c.i ?_)))
    by_cases c1 : sgS A 4 43 s = true
    · have g1 := sg_k (by decide) c1
      rw [if_pos c1]
      refine zWp_nt (by decide) ?_
      rw [el_LawReader_readSum_38, c.t, (c.1.2.2 g1.1).2.2.1]
      exact zWp_po (by decide) (zWp_po (by decide) (zWp_it g1.2.2 (next (-6) (by unfold smC; rw [if_pos c1]) (by decide) (fun _ => by rw [g1.2.1]; decide))))
    · rw [if_neg c1, c.t]
      refine zWp_it rfl (zWp_po (by decide) (zWp_po (by decide) (zWp_qi c.i ?_)))
      by_cases c2 : sgS A 4 45 s = true
      · have g2 := sg_k (by decide) c2
        rw [if_pos c2]
        refine zWp_nt (by decide) ?_
        rw [el_LawReader_readSum_38, c.t, (c.1.2.2 g2.1).2.2.1]
        exact zWp_po (by decide) (zWp_po (by decide) (zWp_nt (by rw [g2.2.2]; decide) (next (-7) (by unfold smC; rw [if_neg c1, if_pos c2]) (by decide) (fun _ => by rw [g2.2.1]; decide))))
      · have ea : lpA (smC A) g (f + 1) (s, C) = (s, C) := by rw [lpA, if_pos (show smC A s = 0 by unfold smC; rw [if_neg c1, if_neg c2])]
        rw [if_neg c2, ea]
        exact zWp_it rfl (zWp_s ⟨c, frLw.rf b h⟩)
theorem q_summ {e : Nat} {A : List zTk} {b op : Int} {inn : Option (zLx → zLx)} (ok : AOk A) (hp : ∀ x h, LC A b x h → zWp (m_LawReader_readPart (e + 4) 10 op h) (LPo A b h (ptA A inn x))) {x : zLx} {h : zH} (c : LC A b x h) : zWp (m_LawReader_readSum (e + 6) 10 op h) (LPo A b h (smmA A inn x)) := by
  rw [em_LawReader_readSum]
  exact zWp_po (by decide) (zWp_bv (q_prod ok hp c) (fun _ h1 u1 => zWp_m (q_lpS ok (fun x h c => q_prod ok hp c) 1600 0 _ h1 (by decide) (by decide) u1.1) (fun _ h2 u2 => ⟨u2.1, u1.2.t u2.2⟩)))
