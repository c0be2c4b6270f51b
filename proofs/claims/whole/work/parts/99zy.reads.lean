/-! the reference reads a sum, a test -/
theorem fi_hd {kd ph bg pr ph' bg' x m : Int} {O C : List Int} (g1 : FI (kd, ph, bg, pr, O)) (hC : C.length + O.length ≤ 1600) (hx : x ≤ -6) (hr : ∀ p ∈ (jnA m O C).1.head?, rkA p < rkA x) (h4 : kd = 1 ∨ kd = 5 → ph' = 0 → rkA x ≠ 4 ∧ ∀ o ∈ (jnA m O C).1, rkA o ≠ 4) (h5 : bg' = 1 → rkA x ≤ 3 ∧ ∀ o ∈ (jnA m O C).1, rkA o ≤ 3) (hb : bg' = 0 ∨ bg' = 1) : FI (kd, ph', bg', pr, x :: (jnA m O C).1) := by
  have jl := jn_l (m := m) O C hC
  have jo := jn_o (m := m) O C g1.1
  refine ⟨⟨fun p hp => Or.inl (hr p hp), jo.1⟩, fun o ho => ?_, g1.2.2.1, fun w1 w2 o ho => ?_, fun w o ho => ?_, hb⟩
  · rcases List.mem_cons.1 ho with z | z
    · rw [z]; exact hx
    · exact g1.2.1 o (jl.2.2 o z)
  · rcases List.mem_cons.1 ho with z | z
    · rw [z]; exact (h4 w1 w2).1
    · exact (h4 w1 w2).2 o z
  · rcases List.mem_cons.1 ho with z | z
    · rw [z]; exact (h5 w).1
    · exact (h5 w).2 o z
theorem iv_T {T : Int → Int} {n kd ph bg pr : Int} {s : zRd} {C O : List Int} {R : List zFr} {c' : zCf} (hn : 0 ≤ n) (ok : AOk (toks T n)) (hs : s.1 < (toks T n).length) (i : IV T n (s, C, true, (kd, ph, bg, pr, O) :: R)) (e : stT (toks T n) s C (kd, ph, bg, pr, O) R = .inl c') : IV T n c' ∧ c'.1.1 < (toks T n).length := by
  have i0 := i
  obtain ⟨⟨i1, i2⟩, ⟨g1, g2, g3, g4⟩, p⟩ := i
  dsimp only at i1 i2
  have i1' : C.length + (O.length + opsN R) + (R.length + 1) ≤ s.1 + 1 := i1
  have i2' : R.length + 1 ≤ 9 := i2
  have hA := ok.1
  have hC : C.length + O.length ≤ 1600 := by omega
  have b0 : bg = 0 := g2 rfl
  have p0 : P4 T n s ((kd, ph, bg, pr, O) :: R) := p
  unfold stT at e
  dsimp only at e
  by_cases c1 : ph < 2 ∧ smC (toks T n) s ≠ 0
  · rw [if_pos c1] at e
    have k := smC_k c1.2
    have r := rk_sm c1.2
    have jl := jn_l (m := 5) O C hC
    have jo := jn_o (m := 5) O C g1.1
    have v : smC (toks T n) s ≤ -6 ∧ smC (toks T n) s ≠ -18 := by rcases smC_v c1.2 with z | z <;> rw [z.2] <;> decide
    exact iv_hd hn ok hs k.1 (by rw [k.2]; decide) i0 v (fi_hd g1 hC v.1 (fun q hq => by rw [r]; exact jo.2.1 q hq) (fun w1 w2 => ⟨by rw [r]; decide, fun o ho => g1.2.2.2.1 w1 w2 o (jl.2.2 o ho)⟩) (fun w => absurd w (by omega)) (Or.inl b0)) e
  rw [if_neg c1] at e
  by_cases c2 : ph < 2 ∧ pdS (toks T n) s ≠ 0
  · rw [if_pos c2] at e
    have k := pdS_k c2.2
    have r := rk_pd c2.2
    have jl := jn_l (m := 6) O C hC
    have jo := jn_o (m := 6) O C g1.1
    have v : pdS (toks T n) s ≤ -6 ∧ pdS (toks T n) s ≠ -18 := by rcases pdS_v c2.2 with z | z | z <;> rw [z.2] <;> decide
    exact iv_hd hn ok hs k.1 (by rw [k.2]; decide) i0 v (fi_hd g1 hC v.1 (fun q hq => by rw [r]; exact jo.2.1 q hq) (fun w1 w2 => ⟨by rw [r]; decide, fun o ho => g1.2.2.2.1 w1 w2 o (jl.2.2 o ho)⟩) (fun w => absurd w (by omega)) (Or.inl b0)) e
  rw [if_neg c2] at e
  by_cases c3 : (kd = 1 ∨ kd = 5) ∧ ph = 0 ∧ cmA (toks T n) s ≠ 0
  · rw [if_pos c3] at e
    have cv := cmA_v c3.2.2
    have jl := jn_l (m := 5) O C hC
    have jo := jn_o (m := 5) O C g1.1
    have k : s.2.1 = 0 ∧ (tkI (toks T n) s.1).1 = 4 := by rcases cv.1 with z | z | z <;> exact ⟨(sg_k (by decide) z).1, (sg_k (by decide) z).2.1⟩
    have v : cmA (toks T n) s ≤ -6 ∧ cmA (toks T n) s ≠ -18 := by
      have w := c3.2.2
      unfold cmA at w ⊢
      split
      · decide
      split
      · decide
      split
      · decide
      · rename_i z1 z2 z3
        rw [if_neg z1, if_neg z2, if_neg z3] at w
        exact absurd rfl w
    refine iv_hd hn ok hs k.1 (by rw [k.2]; decide) i0 v (fi_hd g1 hC v.1 (fun q hq => ?_) (fun w1 w2 => absurd w2 (by decide)) (fun w => absurd w (by omega)) (Or.inl b0)) e
    have a1 := jo.2.1 q hq
    have a2 := g1.2.2.2.1 c3.1 c3.2.1 q (jl.2.2 q (List.mem_of_mem_head? hq))
    rw [cv.2]
    omega
  rw [if_neg c3] at e
  by_cases c4 : (kd = 1 ∨ kd = 5) ∧ sgS (toks T n) 2 19 s = true
  · rw [if_pos c4] at e
    by_cases z : ph = 0
    · rw [if_pos z] at e; cases e
    rw [if_neg z] at e
    have k := sg_k (by decide) c4.2
    have jo := jn_o (m := 2) O C g1.1
    have lt := sd_lt (m := 2) (by decide) _ jo.1 jo.2.1
    exact iv_hd (x := -16) hn ok hs k.1 (by rw [k.2.1]; decide) i0 (by decide) (fi_hd (x := -16) g1 hC (by decide) (fun q hq => by rw [show rkA (-16) = 2 by decide]; exact jo.2.1 q hq) (fun _ _ => ⟨by decide, fun o ho => by have := lt o ho; omega⟩) (fun _ => ⟨by decide, fun o ho => by have := lt o ho; omega⟩) (Or.inr rfl)) e
  rw [if_neg c4] at e
  by_cases c5 : (kd = 1 ∨ kd = 5) ∧ sgS (toks T n) 2 18 s = true
  · rw [if_pos c5] at e
    by_cases z : ph = 0
    · rw [if_pos z] at e; cases e
    rw [if_neg z] at e
    have k := sg_k (by decide) c5.2
    have jo := jn_o (m := 1) O C g1.1
    have lt := sd_lt (m := 1) (by decide) _ jo.1 jo.2.1
    exact iv_hd (x := -17) hn ok hs k.1 (by rw [k.2.1]; decide) i0 (by decide) (fi_hd (x := -17) g1 hC (by decide) (fun q hq => by rw [show rkA (-17) = 1 by decide]; exact jo.2.1 q hq) (fun _ _ => ⟨by decide, fun o ho => by have := lt o ho; omega⟩) (fun _ => ⟨by decide, fun o ho => by have := lt o ho; omega⟩) (Or.inr rfl)) e
  rw [if_neg c5] at e
  by_cases c6 : (kd = 1 ∨ kd = 5) ∧ ph = 0
  · rw [if_pos c6] at e; cases e
  rw [if_neg c6] at e
  by_cases c7 : kd < 2
  · rw [if_pos c7] at e; cases e
  rw [if_neg c7] at e
  have jl := jn_l (m := 1) O C hC
  have j1 := jn_1 O C
  rw [j1] at jl
  have jl1 : 0 + (jnA 1 O C).2.length = O.length + C.length := jl.1
  by_cases c8 : kd = 3
  · rw [if_pos c8] at e
    by_cases z : sgS (toks T n) 4 44 s = true
    · rw [if_pos z, j1] at e
      have k := sg_k (by decide) z
      have e' := Sum.inl.inj e
      rw [← e']
      have q := p0.a (F' := (4, ph, bg, pr, []) :: R) hn ok hs (by rw [k.2.1]; decide) k.1 (by show 0 + nN R ≤ nO1 O + nN R; omega)
      refine ⟨⟨⟨?_, i2⟩, ⟨⟨True.intro, fun o ho => absurd ho (List.not_mem_nil), fun _ => g1.2.2.1 (Or.inl c8), fun _ _ o ho => absurd ho (List.not_mem_nil), fun _ o ho => absurd ho (List.not_mem_nil), g1.2.2.2.2.2⟩, fun w => (nomatch w), fun _ => g3 (by show 2 ≤ kd; omega), g4⟩, q.1⟩, q.2.2⟩
      show (jnA 1 O C).2.length + (0 + opsN R) + (R.length + 1) ≤ (advS s).1 + 1
      rw [q.2.1]
      omega
    · rw [if_neg z] at e; cases e
  rw [if_neg c8] at e
  have cl : ∀ x, sgS (toks T n) 4 x s = true → clsF s (jnA 1 O C).2 (kd, ph, bg, pr, O) R = .inl c' → IV T n c' ∧ c'.1.1 < (toks T n).length := by
    intro x z e
    have k := sg_k (by decide) z
    cases R with
    | nil => cases e
    | cons r R =>
      have e' := Sum.inl.inj e
      rw [← e']
      have fr : FI (if kd = 5 then (r.1, 2, r.2.2) else r) ∧ (if kd = 5 then ((r.1, 2, r.2.2) : zFr) else r).2.2.1 = 0 ∧ (if kd = 5 then ((r.1, 2, r.2.2) : zFr) else r).1 = r.1 ∧ (if kd = 5 then ((r.1, 2, r.2.2) : zFr) else r).2.2.2.2 = r.2.2.2.2 := by
        have f0 := g4.1.1
        have f1 := g4.1.2.1
        by_cases y : kd = 5
        · rw [if_pos y]
          refine ⟨⟨f0.1, f0.2.1, f0.2.2.1, fun _ w => absurd (show (2 : Int) = 0 from w) (by decide), f0.2.2.2.2.1, f0.2.2.2.2.2⟩, f1, rfl, rfl⟩
        · rw [if_neg y]
          exact ⟨f0, f1, rfl, rfl⟩
      have q := p0.a (F' := (if kd = 5 then (r.1, 2, r.2.2) else r) :: R) hn ok hs (by rw [k.2.1]; decide) k.1 (by show nO1 (if kd = 5 then ((r.1, 2, r.2.2) : zFr) else r).2.2.2.2 + nN R ≤ nO1 O + (nO1 r.2.2.2.2 + nN R); rw [fr.2.2.2]; omega)
      have i1'' : C.length + (O.length + (r.2.2.2.2.length + opsN R)) + (R.length + 1 + 1) ≤ s.1 + 1 := i1'
      refine ⟨⟨⟨?_, by show R.length + 1 ≤ 9; have : (R.length + 1) + 1 ≤ 9 := i2'; omega⟩, ⟨fr.1, fun _ => fr.2.1, fun w => g4.1.2.2 (by rw [← fr.2.2.1]; exact w), g4.2⟩, q.1⟩, q.2.2⟩
      show (if kd = 4 then putA (jnA 1 O C).2 pr else (jnA 1 O C).2).length + ((if kd = 5 then ((r.1, 2, r.2.2) : zFr) else r).2.2.2.2.length + opsN R) + (R.length + 1) ≤ (advS s).1 + 1
      rw [q.2.1, fr.2.2.2]
      have := @put_l (jnA 1 O C).2 pr
      split <;> omega
  by_cases z : sgS (toks T n) 4 (if kd = 5 then 93 else 41) s = true
  · rw [if_pos z] at e
    exact cl _ z e
  · rw [if_neg z] at e; cases e
theorem rit_d {A : List zTk} {N : Nat} {c : zCf} {r : zLx} (hd : effK A c.1 ≠ 0) (e : rit A N c = some r) : r = (c.1, []) := by
  cases N with
  | zero => rw [rit] at e; cases e
  | succ N =>
    rw [rit] at e
    unfold stp at e
    rw [if_pos hd] at e
    exact (Option.some.inj e).symm
def PoR (T : Int → Int) (n : Int) (h : zH) (r : zLx) (h' : zH) : Prop := RR T n r.1 h' ∧ frLr h h' ∧ (effK (toks T n) r.1 = 0 → CoR r.2 h')
theorem q_R_loop {d : Nat} {T : Int → Int} {n : Int} (hn : 0 ≤ n) (ok : AOk (toks T n)) : ∀ (N : Nat) (c : zCf) (r : zLx) (h : zH), rit (toks T n) N c = some r → RL0 T n c h → h 403 54 = (if c.2.2.1 = true then 1 else 0) → effK (toks T n) c.1 = 0 → IV T n c → zWp (l_R_reads_43 (d + 5) 1 h) (fun _ h' => PoR T n h r h') := by
  intro N
  induction N with
  | zero => intro c r h e; rw [rit] at e; cases e
  | succ N ih =>
    intro c r h e l e54 hd iv
    obtain ⟨s, C, o, F⟩ := c
    cases F with
    | nil => exact absurd iv.2.1 (fun z => z)
    | cons f R =>
    obtain ⟨kd, ph, bg, pr, O⟩ := f
    dsimp only at e54 hd
    have hs := l.1.1.2.2.2.1
    have hO := iv_b ok hs iv
    have i1 : C.length + (O.length + opsN R) + (R.length + 1) ≤ s.1 + 1 := iv.1.1
    have i2 : R.length + 1 ≤ 9 := iv.1.2
    have hA := ok.1
    have hs' : s.1 < (toks T n).length := hs
    have stop : ∀ h1 (r' : zLx), PoR T n h r' h1 → r' = r → zWp (l_R_reads_43 (d + 5) 0 h1) (fun _ h' => PoR T n h r h') := by
      intro h1 r' p er
      rw [el_R_reads_43, ← er]
      exact zWp_it rfl (zWp_s p)
    rw [rit] at e
    rw [el_R_reads_43, e54]
    refine zWp_nt (by decide) ?_
    cases o with
    | false =>
      rw [stp_F hd] at e
      refine zWp_it rfl (zWp_bi (q_R_oper (d := d) ok l hd (by omega) (by omega) (show O.length + opsN R < 500 by have : O.length + opsN R < 490 := hO; omega) iv.2.1.1.2.2.2.2.2) (fun a h1 u => zWp_bo u.2.1 (zWp_lt fun h2 e2 => ?_)))
      have t2 : ∀ q, ¬ q = 54 → h2 403 q = h1 403 q := fun q hq => by rw [e2, zset_j hq]
      have f2 : frLr h1 h2 := ⟨fun r hr => by rw [e2, zset_n (by omega)], fun q hq => t2 q (by omega), fun r i hr _ => by rw [e2, zset_o (by omega)]⟩
      have iv' := fun c' => iv_F (c' := c') hn ok hs' iv
      rw [el_R_reads_70]
      refine zWp_nt (by decide) ?_
      generalize hz : stpF (toks T n) s C (kd, ph, bg, pr, O) R = z at e u
      rw [hz] at iv'
      obtain ⟨u1, _, u3⟩ := u
      have rf : ∀ s1, RR T n s1 h1 → RR T n s1 h2 := fun s1 w => w.fr (fun q q1 q2 => t2 q (by omega)) (by rw [e2, zset_n (by decide)])
      cases z with
      | inl c' =>
        dsimp only at u3 e
        have r2 := rf _ u3.1
        by_cases dd : effK (toks T n) c'.1 = 0
        · obtain ⟨l1, ea⟩ := u3.2 dd
          have b := k_54 (o' := c'.2.2.1) l1 e2
          refine zWp_it (by rw [r2.2.1.1]; exact dd) (zWp_m (ih c' r h2 e b.1 (by rw [b.2.2]; exact ea) dd (iv' c' rfl).1) (fun _ h3 v => ⟨v.1, (u1.t f2).t v.2.1, v.2.2⟩))
        · refine zWp_nt (by rw [r2.2.1.1]; exact dd) (stop h2 (c'.1, []) ⟨r2, u1.t f2, fun w => absurd w dd⟩ (rit_d dd e).symm)
      | inr r' =>
        dsimp only at u3 e
        have r2 := rf _ u3.1
        exact zWp_nt (by rw [r2.2.1.1]; exact u3.2) (stop h2 r' ⟨r2, u1.t f2, fun w => absurd w u3.2⟩ (Option.some.inj e))
    | true =>
      rw [stp_T hd] at e
      have kp : Kp T n kd ph bg pr s C O R h := ⟨l, hd, ⟨by omega, iv.2.1.2.2.1, by omega, fun w => by have := ok.2.1 s.1 hs' w; omega, hO⟩, ⟨iv.2.1.1.2.1, fun w => iv.2.1.1.2.2.1 (Or.inr w)⟩, e54⟩
      refine zWp_nt (by rw [if_pos rfl]; decide) (zWp_bi (q_R_goes (d := d + 1) kp) (fun a h1 u => ?_))
      have iv' := fun c' => iv_T (c' := c') hn ok hs' iv
      generalize hz : stT (toks T n) s C (kd, ph, bg, pr, O) R = z at e u
      rw [hz] at iv'
      obtain ⟨u1, u3⟩ := u
      rw [el_R_reads_70]
      cases z with
      | inl c' =>
        dsimp only at u3 e
        refine zWp_nt (by rw [u3.2.2]; decide) ?_
        by_cases dd : effK (toks T n) c'.1 = 0
        · exact zWp_it (by rw [u3.1.1.2.1.1]; exact dd) (zWp_m (ih c' r h1 e u3.1 u3.2.1 dd (iv' c' rfl).1) (fun _ h3 v => ⟨v.1, u1.t v.2.1, v.2.2⟩))
        · exact zWp_nt (by rw [u3.1.1.2.1.1]; exact dd) (stop h1 (c'.1, []) ⟨u3.1.1, u1, fun w => absurd w dd⟩ (rit_d dd e).symm)
      | inr r' =>
        dsimp only at u3 e
        exact zWp_it u3.2.1 (stop h1 r' ⟨u3.1, u1, u3.2.2⟩ (Option.some.inj e))
