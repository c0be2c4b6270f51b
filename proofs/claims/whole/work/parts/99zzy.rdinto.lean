/-! the class reads a text, wholly -/
def PIn (T : Int → Int) (n b : Int) (h : zH) (a : Int) (h1 : zH) : Prop := ∃ σ, Z0 σ ∧ (∀ r, ¬ (r = 4 ∨ r = 5 ∨ 7 ≤ r ∧ r ≤ 10 ∨ b ≤ r ∧ r ≤ b + 25) → h1 r = h r) ∧ (h1 5 11 = (finS (toks T n) (outY (toks T n) σ).2.2.1).2.1 ∧ h1 5 12 = (finS (toks T n) (outY (toks T n) σ).2.2.1).2.2) ∧ (∀ i, 0 ≤ i → i < 3 → h1 (b + 12) i = b + 9 + i) ∧
  ((finS (toks T n) (outY (toks T n) σ).2.2.1).2.1 = 0 → a = ((outY (toks T n) σ).1 : Int) ∧ CS (fnS (outY (toks T n) σ).2.1) b h1 ∧ BkM (outY (toks T n) σ).2.2.2.1 b h1)
theorem iy_out {A : List zTk} {σ : zH} (ok : AOk A) (z : Z0 σ) (h : (finS A (outY A σ).2.2.1).2.1 = 0) : IY A (outY A σ).1 (outY A σ).2 := by
  have e := (fin_f (A := A) (s := (outY A σ).2.2.1)).2.2 h
  rw [e.1] at h
  unfold outY at h ⊢
  by_cases c : (tkI A 0).1 = 0
  · rw [if_pos c] at h
    exact absurd h dS_z
  · rw [if_neg c] at h ⊢
    exact iy_lp ok 99 1 _ (fun y => iy_f z y) h
theorem q_rdin {d : Nat} {T : Int → Int} {n b : Int} {h : zH} (hb : b = 11 ∨ b = 39) (h12 : ∀ i, 0 ≤ i → i < 3 → h (b + 12) i = b + 9 + i) (hn : 0 ≤ n ∧ n ≤ 1600) (hT : ∀ j, 0 ≤ j → j < n → h 1 j = T j) (ow : ∀ i : Nat, i < 26 → h 6 (i : Int) = ownW.getD i 0) : zWp (m_SlopeReader_readInto (d + 45) 1600 4 b 1 n h) (fun v h1 => ∃ a, v = .inl a ∧ PIn T n b h a h1) := by
  have ok := toks_ok (T := T) hn
  refine q_into (d := d) hb h12 hn hT ow (fun σ h1 z p f1 f4 => ?_)
  obtain ⟨pc, bk⟩ := p
  dsimp only at pc bk
  have t := pc.1
  have g12 : ∀ i, 0 ≤ i → i < 3 → h1 (b + 12) i = b + 9 + i := fun i i1 i2 => by rw [pc.2.1.2 12 i (by decide) (by decide)]; exact pc.2.2.2 i i1 i2
  have e11 : h1 5 11 = (finS (toks T n) (outY (toks T n) σ).2.2.1).2.1 := t.2.1.1
  have e12 : h1 5 12 = (finS (toks T n) (outY (toks T n) σ).2.2.1).2.2 := t.2.1.2.1
  rw [el_SlopeReader_readInto_116, show (4 + 1 : Int) = 5 from rfl, e11]
  refine zWp_po (by decide) (zWp_po (by decide) ?_)
  by_cases y : (finS (toks T n) (outY (toks T n) σ).2.2.1).2.1 = 0
  case neg => exact zWp_nt y (zWp_s ⟨_, rfl, σ, z, f1, ⟨e11, e12⟩, g12, fun w => absurd w y⟩)
  have iy := iy_out ok z y
  have wp := iy.1.1
  rw [pc.2.2.1, em_Slope_findNexts]
  have n0 : 0 ≤ nC (outY (toks T n) σ).2.1 := Int.mul_nonneg wp.1.1.1 wp.1.1.2.2.1
  refine zWp_it y (zWp_po (by decide) (zWp_po (by omega) (zWp_bv (q_fn2 (d := d + 41) wp.1 iy.1.2.1 (fun j j1 j2 => ⟨(wp.2.2.1 j j1 j2).1, (wp.2.2.1 j j1 j2).2.1⟩) (nC (outY (toks T n) σ).2.1).toNat 0 _ h1 (by omega) (Int.le_refl _) pc.2.1 (fun _ _ _ => rfl)) (fun _ h2 u => zWp_s ⟨_, rfl, σ, z, fun r hr => by rw [u.2 r (by omega), f1 r hr], ⟨by rw [u.2 5 (by omega)]; exact e11, by rw [u.2 5 (by omega)]; exact e12⟩, fun i i1 i2 => by rw [u.2 (b + 12) (by omega)]; exact g12 i i1 i2, fun _ => ⟨rfl, u.1, bk.f (fun r r1 r2 => u.2 r (by omega))⟩⟩))))
/-! a slope that fails -/
theorem s_fail {d : Nat} {σ st : zH} {D : zDR} {K : zKp} {Λ : zLw} {G h h1 : zH} {a : Int} (c : CI σ st D K Λ G h) (r : RI σ st D K Λ G h) (wk : WK σ D K) (wg : WG G) (p : PIn (fun j => G 1 j) (G 0 0) (h 0 8) h a h1) (bad : h1 5 11 ≠ 0) : Alike (some (.inl (-1), zset (zset h1 0 1 0) 3 1 (w32 ((zset h1 0 1 0) 3 1 + 1)))) (m_R_slope (d + 11)) := by
  obtain ⟨σ0, z, f1, ⟨e11, e12⟩, g12, _⟩ := p
  have hb := c.1.2.1.1
  have c2 := c.2.1
  have cg := c.2.2.1
  have hn := wg.1
  generalize hA : toks (fun j => G 1 j) (G 0 0) = A at *
  have ff := @fin_f A (outY A σ0).2.2.1
  have bz : (finS A (outY A σ0).2.2.1).2.1 ≠ 0 := by rw [← e11]; exact bad
  have eK : effK A (finS A (outY A σ0).2.2.1) ≠ 0 := by rw [ff.1]; exact bz
  refine zWp_s ?_
  generalize hC : zset (zset h1 0 1 0) 3 1 (w32 ((zset h1 0 1 0) 3 1 + 1)) = hc
  have rC : ∀ q, q ≠ 0 → q ≠ 3 → hc q = h1 q := fun q q0 q3 => by rw [← hC, zset_n q3, zset_n q0]
  have hi : fr403 h hc := fun q hq => by rw [rC q (by omega) (by omega), f1 q (by omega)]
  have r1 := r.hi hi
  refine q_R_slo (d := d) (T := fun j => G 1 j) (n := G 0 0) (σ := σ0) z r1.1.1.1 hn r1.2.1.1.1 r1.2.1.1.2 (fun k' h' rr fr _ => ?_)
  rw [hA] at rr
  rw [el_R_slope_93]
  refine zWp_lt fun h3 e3 => zWp_lt fun h4 e4 => ?_
  have k8 : h3 403 9 = h' 403 9 := by rw [e3, zset_j (by decide)]
  have k4 : h4 403 8 = h' 403 8 := by rw [e4, zset_j (by decide), e3, zset_j (by decide)]
  have rr8 : h' 403 8 = effK A (finS A (outY A σ0).2.2.1) := by have := rr.2.1.1; rw [hA] at this; exact this
  have rr9 : h' 403 9 = effP A (finS A (outY A σ0).2.2.1) := by have := rr.2.1.2; rw [hA] at this; exact this
  have gz := eff_g (A := A) rr.1.2.2.2.2
  rw [k4, rr8]
  refine zWp_it (by omega) (zWp_qi (q_R_refuses (d := d + 9) ⟨by decide, by decide⟩) (zWp_s ⟨rfl, ?_⟩))
  have h10 : h4 403 10 = (finS A (outY A σ0).2.2.1).2.1 := by rw [e4, zset_j (by decide), e3, zset_e, rr8, ff.1]
  have h11 : h4 403 11 = (finS A (outY A σ0).2.2.1).2.2 := by rw [e4, zset_e, k8, rr9, ff.2.1 bz]
  have s4 : ∀ q, ¬ (q = 10 ∨ q = 11) → h4 403 q = h' 403 q := fun q hq => by rw [e4, zset_j (by omega), e3, zset_j (by omega)]
  have n4 : ∀ q, q ≠ 403 → h4 q = h' q := fun q hq => by rw [e4, zset_n hq, e3, zset_n hq]
  generalize hF : zset h4 441 1 (w32 (h4 441 1 + 1)) = hf
  have nF : ∀ q, q ≠ 441 → hf q = h4 q := fun q hq => by rw [← hF, zset_n hq]
  have lo : ∀ q, q < 403 → hf q = hc q := fun q hq => by rw [nF q (by omega), n4 q (by omega), fr.1 q (by omega)]
  have c0 : ∀ q, q ≠ 1 → hc 0 q = h 0 q := fun q hq => by rw [← hC, zset_n (by decide), zset_j hq, f1 0 (by omega)]
  have c01 : hc 0 1 = 0 := by rw [← hC, zset_n (by decide), zset_e]
  have x3 : ∀ i, hc 3 i = if i = 1 then w32 (h 3 1 + 1) else h 3 i := fun i => by rw [← hC, zset_g, zset_n (by decide), f1 3 (by omega)]
  have g441 : ∀ i, hf 441 i = if i = 1 then w32 (h 441 1 + 1) else h 441 i := fun i => by rw [← hF, zset_g, n4 441 (by decide), fr.1 441 (by decide), hi 441 (by decide)]
  have G00 : ∀ q, (zset (zset (zset (zset G 0 0 0) 0 3 (finS A (outY A σ0).2.2.1).2.1) 0 4 (finS A (outY A σ0).2.2.1).2.2) 3 1 (w32 (G 3 1 + 1))) 0 q = if q = 4 then (finS A (outY A σ0).2.2.1).2.2 else if q = 3 then (finS A (outY A σ0).2.2.1).2.1 else if q = 0 then 0 else G 0 q := fun q => by rw [zset_n (by decide), zset_g, zset_g, zset_g]
  have G3 : ∀ i, (zset (zset (zset (zset G 0 0 0) 0 3 (finS A (outY A σ0).2.2.1).2.1) 0 4 (finS A (outY A σ0).2.2.1).2.2) 3 1 (w32 (G 3 1 + 1))) 3 i = if i = 1 then w32 (G 3 1 + 1) else G 3 i := fun i => by rw [zset_g, zset_n (by decide), zset_n (by decide), zset_n (by decide)]
  have G2 : (zset (zset (zset (zset G 0 0 0) 0 3 (finS A (outY A σ0).2.2.1).2.1) 0 4 (finS A (outY A σ0).2.2.1).2.2) 3 1 (w32 (G 3 1 + 1))) 2 = G 2 := by rw [zset_n (by decide), zset_n (by decide), zset_n (by decide), zset_n (by decide)]
  generalize (zset (zset (zset (zset G 0 0 0) 0 3 (finS A (outY A σ0).2.2.1).2.1) 0 4 (finS A (outY A σ0).2.2.1).2.2) 3 1 (w32 (G 3 1 + 1))) = G' at G00 G3 G2
  have a0 : G' 0 0 = 0 := by rw [G00]; rfl
  have a1 : G' 0 1 = G 0 1 := by rw [G00]; rfl
  have a2 : G' 0 2 = G 0 2 := by rw [G00]; rfl
  have a3 : G' 0 3 = (finS A (outY A σ0).2.2.1).2.1 := by rw [G00]; rfl
  have a4 : G' 0 4 = (finS A (outY A σ0).2.2.1).2.2 := by rw [G00]; rfl
  obtain ⟨q1, q2, q3, q4, q5, q6⟩ := cg
  obtain ⟨t1, t2, t3, t4, t5, t6⟩ := r.2.1
  refine ⟨σ, st, D, K, Λ, G', ?_, ?_, wk, ?_⟩
  · refine c.sp (h' := hf) ⟨⟨by rw [lo 0 (by decide), c01, a0], fun j j1 j2 => by omega⟩, ⟨by rw [lo 0 (by decide), c0 3 (by decide), a1]; exact q2.1, fun j j1 j2 => ?_⟩, fun i i1 i2 => ?_, by rw [lo 0 (by decide), c0 5 (by decide), a2]; exact q4, by rw [lo 5 (by decide), rC 5 (by decide) (by decide), a3]; exact e11, by rw [lo 5 (by decide), rC 5 (by decide) (by decide), a4]; exact e12⟩ (by rw [lo 0 (by decide), c0 7 (by decide)]) (by rw [lo 0 (by decide), c0 8 (by decide)]) (fun q z1 z2 => ?_) (fun i i1 i2 => by rw [lo (h 0 8 + 12) (by omega), rC (h 0 8 + 12) (by omega) (by omega)]; exact g12 i i1 i2)
    · rw [a1] at j2
      rw [lo 2 (by decide), rC 2 (by decide) (by decide), f1 2 (by omega), G2]
      exact q2.2 j j1 j2
    · rw [lo 3 (by decide), x3, G3, q3 1 (by decide) (by decide), q3 i i1 i2]
    · unfold crC at z1
      rw [lo q (by omega), rC q (by omega) (by omega), f1 q (by omega)]
  · refine r1.sp (h' := hf) ⟨⟨by rw [nF 403 (by decide), s4 1 (by decide), fr.2.2.2.1, a0], fun j j1 j2 => by omega⟩, ⟨by rw [nF 403 (by decide), s4 93 (by decide), fr.2.1 93 (by decide), hi 403 (by decide), a1]; exact t2.1, fun j j1 j2 => ?_⟩, fun i i1 i2 => ?_, by rw [nF 403 (by decide), s4 70 (by decide), fr.2.1 70 (by decide), hi 403 (by decide), a2]; exact t4, by rw [nF 403 (by decide), h10, a3], by rw [nF 403 (by decide), h11, a4]⟩ (fun q hq => by rw [nF 403 (by decide), s4 q (by omega), fr.2.1 q (by omega)]) (fun q q1 q2 => by rw [nF q (by omega), n4 q (by omega), fr.1 q (by omega)]) (fun q j q1 q2 x => by rw [nF q (by omega), n4 q (by omega)]; exact fr.2.2.1 q j q1 q2 x)
    · rw [a1] at j2
      rw [nF 463 (by decide), n4 463 (by decide), fr.1 463 (by decide), hi 463 (by decide), G2]
      exact t2.2 j j1 j2
    · rw [g441, G3, t3 1 (by decide) (by decide), t3 i i1 i2]
  · refine ⟨by rw [a0]; decide, fun j j1 j2 => by omega, by rw [a1]; exact wg.2.2.1, by rw [a2]; exact wg.2.2.2⟩
