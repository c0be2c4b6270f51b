/-! a slope that is read -/
theorem BkM.c {K : zKb} {L : List zL4} {b : Int} {h : zH} (k : BkM K b h) (s : Sg1 fXs L K) (hL : L.length ≤ 8) : BkC L b h := by
  refine ⟨by rw [k.2.1, s.1], hL, fun j l hj => ?_⟩
  obtain ⟨P, a1, a2, a3⟩ := s.2 j l hj
  have m := k.2.2 j _ _ _ a1
  have l1 := k.1.2.1
  unfold fXs at a2 a3 m
  dsimp only at a2 a3 m
  exact ⟨P, m.1, m.2.1, m.2.2, fun i x hx => k.1.2.2 (P + i) x (a2 i x hx), by omega⟩
theorem BkN.c {K : zKb} {L : List zL4} {h : zH} (k : BkN K h) (s : Sg1 fYs L K) (hL : L.length ≤ 8) (hC : K.1.length ≤ 1600) (e : h 429 (h 403 44) = (L.length : Int)) : BkR L (h 403 44) h := by
  refine ⟨e, hL, fun j l hj => ?_⟩
  obtain ⟨P, a1, a2, a3⟩ := s.2 j l hj
  have m := k.2 j _ _ _ a1
  unfold fYs at a2 a3 m
  dsimp only at a2 a3 m
  exact ⟨P, m.1, m.2.1, m.2.2, fun i x hx => k.1.2.2 (P + i) x (a2 i x hx), by omega⟩
theorem s_good {d e : Nat} {σ st : zH} {D : zDR} {K : zKp} {Λ : zLw} {G h h1 : zH} {a : Int} (c : CI σ st D K Λ G h) (r : RI σ st D K Λ G h) (wg : WG G) (p : PIn (fun j => G 1 j) (G 0 0) (h 0 8) h a h1) (good : h1 5 11 = 0) : Alike (zlt (zset (zset h1 0 1 0) 0 7 ((zset h1 0 1 0) 0 8)) fun h4 => zlt (zset h4 0 8 ((zset h1 0 1 0) 0 7)) fun h5 => zqv (m_State_begin (e + 2) 67 (h5 0 7) h5) fun h6 => zqv (m_B_forgetActs (e + 2) h6) fun h7 => some (.inl a, h7)) (m_R_slope (d + 11)) := by
  obtain ⟨σ0, z, f1, ⟨e11, e12⟩, g12, gd⟩ := p
  have hb := c.1.2.1.1
  have c2 := c.2.1
  have hn := wg.1
  have ok := toks_ok (T := fun j => G 1 j) hn
  have y : (finS (toks (fun j => G 1 j) (G 0 0)) (outY (toks (fun j => G 1 j) (G 0 0)) σ0).2.2.1).2.1 = 0 := by rw [← e11]; exact good
  obtain ⟨ea, cs, bk⟩ := gd y
  have iy := iy_out ok z y
  have ff := @fin_f (toks (fun j => G 1 j) (G 0 0)) (outY (toks (fun j => G 1 j) (G 0 0)) σ0).2.2.1
  have py := pl_out (A := toks (fun j => G 1 j) (G 0 0)) (σ := σ0) y
  have eP := (ff.2.2 y).2.1
  have eF := (ff.2.2 y).1
  have ws := fn_w iy.1.1 iy.1.2.1
  obtain ⟨L, sg⟩ := iy.2
  have b0 : (zset h1 0 1 0) 0 8 = h 0 8 := by rw [zset_j (by decide), f1 0 (by omega)]
  have b7 : (zset h1 0 1 0) 0 7 = h 0 7 := by rw [zset_j (by decide), f1 0 (by omega)]
  unfold Alike
  rw [b0, b7]
  refine zWp_lt fun h4 x4 => zWp_lt fun h5 x5 => ?_
  have n5 : ∀ q, q ≠ 0 → h5 q = h1 q := fun q hq => by rw [x5, zset_n hq, x4, zset_n hq, zset_n hq]
  have s5 : ∀ q, h5 0 q = if q = 8 then h 0 7 else if q = 7 then h 0 8 else if q = 1 then 0 else h 0 q := fun q => by rw [x5, zset_g, x4, zset_g, zset_g, f1 0 (by omega)]
  have s57 : h5 0 7 = h 0 8 := by rw [s5]; rfl
  rw [s57]
  have cs5 : CS (fnS (outY (toks (fun j => G 1 j) (G 0 0)) σ0).2.1) (h 0 8) h5 := cs.fr (fun q q1 q2 => n5 q (by omega))
  refine zWp_bv (q_sbegin (d := e) ws cs5 (Or.inl rfl)) (fun _ h6 u6 => ?_)
  have fg : zWp (m_B_forgetActs (e + 2) h6) (fun _ h7 => h7 = zset (zset h6 84 2 0) 331 4 0) := by
    rw [em_B_forgetActs]
    refine zWp_lt fun h7 x7 => ?_
    rw [em_NetSearch_forget]
    exact zWp_bv (P := fun _ h8 => h8 = zset h7 331 4 0) (zWp_po (by decide) (zWp_lt fun h8 x8 => zWp_s x8)) (fun _ h8 x8 => zWp_s (by rw [x8, x7]))
  refine zWp_bv fg (fun _ hc hC => zWp_s ?_)
  have nC' : ∀ q, ¬ (q = 0 ∨ 67 ≤ q ∧ q ≤ 74 ∨ q = 84 ∨ q = 331) → hc q = h1 q := fun q hq => by rw [hC, zset_n (by omega), zset_n (by omega), u6.2.2 q (by omega), n5 q (by omega)]
  have z0 : ∀ q, hc 0 q = if q = 8 then h 0 7 else if q = 7 then h 0 8 else if q = 1 then 0 else h 0 q := fun q => by rw [hC, zset_n (by decide), zset_n (by decide), u6.2.2 0 (by decide), s5]
  have m67 : ∀ q, 67 ≤ q → q ≤ 74 → hc q = h6 q := fun q q1 q2 => by rw [hC, zset_n (by omega), zset_n (by omega)]
  have m84 : ∀ q, hc 84 q = if q = 2 then 0 else h 84 q := fun q => by rw [hC, zset_n (by decide), zset_g, u6.2.2 84 (by decide), n5 84 (by decide), f1 84 (by omega)]
  have m331 : hc 331 4 = 0 := by rw [hC, zset_e]
  have hi : fr403 h hc := fun q hq => by rw [nC' q (by omega), f1 q (by omega)]
  have r1 := r.hi hi
  refine q_R_slo (d := d) (T := fun j => G 1 j) (n := G 0 0) (σ := σ0) z r1.1.1.1 hn r1.2.1.1.1 r1.2.1.1.2 (fun k' h' rr fr al => ?_)
  have eK : effK (toks (fun j => G 1 j) (G 0 0)) (finS (toks (fun j => G 1 j) (G 0 0)) (outY (toks (fun j => G 1 j) (G 0 0)) σ0).2.2.1) = 0 := by rw [ff.1]; exact y
  obtain ⟨ek, pr, bn⟩ := al eK
  have rlt := rr.1.2.2.2.1
  have rr8 : h' 403 8 = 0 := by rw [rr.2.1.1]; exact eK
  have rr9 : h' 403 9 = -1 := by rw [rr.2.1.2, eF]; exact eP
  rw [el_R_slope_93]
  refine zWp_lt fun k3 w3 => zWp_lt fun k4 w4 => ?_
  have t4 : ∀ q, k4 403 q = if q = 11 then h' 403 9 else if q = 10 then h' 403 8 else h' 403 q := fun q => by rw [w4, zset_g, w3, zset_j (by decide), zset_g]
  have t48 : k4 403 8 = 0 := by rw [t4]; exact rr8
  rw [t48]
  refine zWp_nt (by decide) (zWp_lt fun k5 w5 => ?_)
  have t44 : k4 403 44 = h' 403 44 := by rw [t4]; rfl
  have t5 : ∀ q, k5 403 q = if q = 12 then h' 403 44 else if q = 11 then h' 403 9 else if q = 10 then h' 403 8 else h' 403 q := fun q => by rw [w5, zset_g, t44, t4]
  have v5 : ∀ q, q ≠ 403 → k5 q = h' q := fun q hq => by rw [w5, zset_n hq, w4, zset_n hq, w3, zset_n hq]
  have p5 := pr.g (h' := k5) (by rw [t5]; rfl) (fun q q1 q2 => v5 q (by omega))
  refine zWp_bv (q_R_begins (d := d + 7) iy.1.1 iy.1.2.1 p5 (by rw [t5, t5]; rfl)) (fun _ hf uf => zWp_s ⟨by rw [ek, ea], ?_⟩)
  obtain ⟨⟨rs, rt, rn⟩, ⟨o1, o2, o3⟩, fR, fS⟩ := uf
  have lo : ∀ q, q < 403 → hf q = hc q := fun q hq => by rw [fR q (by omega), v5 q (by omega), fr.1 q (by omega)]
  have S : ∀ q, ¬ q = 69 → hf 403 q = if q = 12 then h' 403 44 else if q = 11 then -1 else if q = 10 then 0 else h' 403 q := fun q hq => by rw [fS q hq, t5, rr9, rr8]
  have c07 : hf 0 7 = h 0 8 := by rw [lo 0 (by decide), z0]; rfl
  have nS8 : nS (fnS (outY (toks (fun j => G 1 j) (G 0 0)) σ0).2.1) = nS (outY (toks (fun j => G 1 j) (G 0 0)) σ0).2.1 := by show fnS _ 8 7 = _; rw [fn_o (by decide) (by decide)]
  have ct := u6.1
  rw [nS8] at ct
  have hL8 : L.length ≤ 8 := by
    have q1 := iy.1.1.1.2
    have q2 := sg.1.2
    have q3 : nLa (outY (toks (fun j => G 1 j) (G 0 0)) σ0).2.1 = (outY (toks (fun j => G 1 j) (G 0 0)) σ0).2.1 8 16 := rfl
    omega
  have G0 : ∀ q, (zset (zset (zset G 0 0 0) 0 3 0) 0 4 (-1)) 0 q = if q = 4 then -1 else if q = 3 then 0 else if q = 0 then 0 else G 0 q := fun q => by rw [zset_g, zset_g, zset_g]
  have Gr : ∀ q, q ≠ 0 → (zset (zset (zset G 0 0 0) 0 3 0) 0 4 (-1)) q = G q := fun q hq => by rw [zset_n hq, zset_n hq, zset_n hq]
  generalize (zset (zset (zset G 0 0 0) 0 3 0) 0 4 (-1)) = G' at G0 Gr
  have a0 : G' 0 0 = 0 := by rw [G0]; rfl
  have a1 : G' 0 1 = G 0 1 := by rw [G0]; rfl
  have a2 : G' 0 2 = G 0 2 := by rw [G0]; rfl
  have a3 : G' 0 3 = 0 := by rw [G0]; rfl
  have a4 : G' 0 4 = -1 := by rw [G0]; rfl
  obtain ⟨q1, q2, q3, q4, q5, q6⟩ := c.2.2.1
  obtain ⟨t1, t2, t3, t4', t5', t6⟩ := r.2.1
  have bkF : BkM (outY (toks (fun j => G 1 j) (G 0 0)) σ0).2.2.2.1 (h 0 8) hf := bk.f (fun q q1 q2 => by rw [lo q (by omega), nC' q (by omega)])
  have bnF : BkR L (h' 403 44) h' := bn.c sg.2.1.2 hL8 (by have := sg.2.2.2; have := ok.1; rw [eF] at rlt; omega) (by rw [pr.2.2.1.2.2.2.2.2.2.2]; exact sg.1.2)
  have s12 : hf 403 12 = h' 403 44 := by rw [S 12 (by decide)]; rfl
  have bnF2 : BkR L (hf 403 12) hf := by
    rw [s12]
    have w : ∀ q, 429 ≤ q → q ≤ 434 → hf q = h' q := fun q q1 q2 => by rw [fR q (by omega), v5 q (by omega)]
    exact ⟨by rw [w 429 (by decide) (by decide)]; exact bnF.1, bnF.2.1, fun j l hj => (bnF.2.2 j l hj).fr (fun q q1 q2 => w q (by omega) q2)⟩
  refine ⟨_, _, [], [], lwF L, G', ⟨⟨rfl, ?_, ?_, ws, stB_w ws⟩, ?_, ⟨⟨?_, fun j j1 j2 => by omega⟩, ⟨?_, fun j j1 j2 => ?_⟩, fun i i1 i2 => ?_, ?_, ?_, ?_⟩, ?_, ⟨⟨?_, by decide⟩, fun j x hj => by cases hj⟩, ⟨⟨?_, by decide⟩, ?_, fun j k hj => by cases hj⟩, Or.inl ?_, ?_⟩, ⟨⟨rs, rt, ws, stB_w ws⟩, ⟨⟨?_, fun j j1 j2 => by omega⟩, ⟨?_, fun j j1 j2 => ?_⟩, fun i i1 i2 => ?_, ?_, ?_, ?_⟩, ⟨fun o p1 p2 => ?_, ⟨?_, by show ((0 : Nat) : Int) ≤ 99; decide⟩, fun j x hj => by cases hj⟩, ⟨⟨?_, by decide⟩, ?_, fun j k hj => by cases hj⟩, ?_, rn⟩, True.intro, ⟨by rw [a0]; decide, fun j j1 j2 => by omega, by rw [a1]; exact wg.2.2.1, by rw [a2]; exact wg.2.2.2⟩⟩
  · rw [c07]
    exact cs.fr (fun q q1 q2 => by rw [lo q (by omega), nC' q (by omega)])
  · exact ct.fr (fun q q1 q2 => by rw [lo q (by omega), m67 q (by omega) (by omega)])
  · rw [c07, lo 0 (by decide), z0]
    show h 0 7 = 50 - h 0 8
    omega
  · rw [lo 0 (by decide), z0, a0]; rfl
  · rw [lo 0 (by decide), z0, a1]; exact q2.1
  · rw [a1] at j2
    rw [lo 2 (by decide), nC' 2 (by decide), f1 2 (by omega), Gr 2 (by decide)]
    exact q2.2 j j1 j2
  · rw [lo 3 (by decide), nC' 3 (by decide), f1 3 (by omega), Gr 3 (by decide)]
    exact q3 i i1 i2
  · rw [lo 0 (by decide), z0, a2]; exact q4
  · rw [lo 5 (by decide), nC' 5 (by decide), a3]; exact good
  · rw [lo 5 (by decide), nC' 5 (by decide), a4, e12]; exact py
  · obtain ⟨k1, k2, k3', k4', k5'⟩ := c.2.2.2.1
    have w : ∀ q, (q = 83 ∨ q = 85 ∨ q = 347 ∨ q = 6) → hf q = h q := fun q hq => by rw [lo q (by omega), nC' q (by omega), f1 q (by omega)]
    refine ⟨fun i i1 i2 => by rw [w 83 (by decide)]; exact k1 i i1 i2, fun i i1 i2 => by rw [w 85 (by decide)]; exact k2 i i1 i2, fun i i1 i2 => by rw [w 347 (by decide)]; exact k3' i i1 i2, fun i i1 i2 => ?_, fun i hi => by rw [w 6 (by decide)]; exact k5' i hi⟩
    have qq := k4' i i1 i2
    have ss := g12 i i1 i2
    rw [lo 23 (by decide), lo 51 (by decide), nC' 23 (by decide), nC' 51 (by decide)]
    rcases hb with e7 | e7
    · have e8 : h 0 8 = 39 := by omega
      rw [e8] at ss
      have ss' : h1 51 i = 39 + 9 + i := ss
      exact ⟨by rw [f1 23 (by omega)]; exact qq.1, by omega⟩
    · have e8 : h 0 8 = 11 := by omega
      rw [e8] at ss
      have ss' : h1 23 i = 11 + 9 + i := ss
      exact ⟨by omega, by rw [f1 51 (by omega)]; exact qq.2⟩
  · rw [lo 67 (by decide), m67 67 (by decide) (by decide), u6.2.1]; rfl
  · rw [lo 84 (by decide), m84]; rfl
  · rw [lo 84 (by decide), m84]
    exact c.2.2.2.2.2.1.2.1
  · rw [lo 331 (by decide)]; exact m331
  · rw [c07]
    exact law_C (by omega) sg.1.1 (bkF.c sg.2.1.1 hL8)
  · rw [S 1 (by decide), a0]
    exact fr.2.2.2.1
  · rw [S 93 (by decide), a1]
    show h' 403 93 = _
    rw [fr.2.1 93 (by decide), hi 403 (by decide)]
    exact t2.1
  · rw [a1] at j2
    rw [fR 463 (by decide), v5 463 (by decide), fr.1 463 (by decide), hi 463 (by decide), Gr 2 (by decide)]
    exact t2.2 j j1 j2
  · rw [fR 441 (by decide), v5 441 (by decide), fr.1 441 (by decide), hi 441 (by decide), Gr 3 (by decide)]
    exact t3 i i1 i2
  · rw [S 70 (by decide), a2]
    show h' 403 70 = _
    rw [fr.2.1 70 (by decide), hi 403 (by decide)]
    exact t4'
  · rw [S 10 (by decide), a3]; rfl
  · rw [S 11 (by decide), a4]; rfl
  · rw [o1 o p1 p2]
    dsimp only
    rw [stB_o (by decide) (by decide) (by decide)]
    rfl
  · exact o2
  · exact o3
  · rw [S 68 (by decide)]
    show 0 ≤ h' 403 68 ∧ h' 403 68 < 30
    rw [fr.2.1 68 (by decide), hi 403 (by decide)]
    exact r.2.2.2.1.2.1
  · exact fun d => law_R (by rw [s12]; exact pr.1.1) sg.1.1 bnF2 d
