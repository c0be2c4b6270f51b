/-! the machine's frames stay in order -/
theorem put_l {C : List Int} {x : Int} : (putA C x).length ≤ C.length + 1 := by
  unfold putA
  split
  · rw [List.length_append]; exact Nat.le_refl _
  · omega
theorem sd_lt {m : Int} (hm : m ≤ 3) : ∀ (O : List Int), Sd O → (∀ p ∈ O.head?, rkA p < m) → ∀ o ∈ O, rkA o < m
  | [], _, _, o, ho => absurd ho (List.not_mem_nil)
  | x :: O, h, hd, o, ho => by
    have hx := hd x rfl
    rcases List.mem_cons.1 ho with z | z
    · rw [z]; exact hx
    · refine sd_lt hm O h.2 (fun p hp => ?_) o z
      rcases h.1 p hp with y | y
      · omega
      · have : rkA x = 3 := by rw [y.1]; decide
        omega
theorem rk_3 {o : Int} (h : ¬ o = -18) : rkA o ≠ 3 := by
  unfold rkA
  rw [if_neg h]
  repeat' split
  all_goals decide
def P4 (T : Int → Int) (n : Int) (s : zRd) (F : List zFr) : Prop := 4 * (nN F : Int) ≤ (tkI (toks T n) s.1).2.1 + 1 ∧ ((tkI (toks T n) s.1).1 = 2 → 4 * (nN F : Int) ≤ (tkI (toks T n) s.1).2.1)
theorem P4.a {T : Int → Int} {n : Int} {s : zRd} {F F' : List zFr} (p : P4 T n s F) (hn : 0 ≤ n) (ok : AOk (toks T n)) (hs : s.1 < (toks T n).length) (k0 : (tkI (toks T n) s.1).1 ≠ 0) (f : s.2.1 = 0) (h : nN F' ≤ nN F) : P4 T n (advS s) F' ∧ (advS s).1 = s.1 + 1 ∧ (advS s).1 < (toks T n).length := by
  have hi := ok.2.1 s.1 hs k0
  have l := tk_L1 hn hi k0
  rw [adv_e f]
  refine ⟨⟨?_, fun _ => ?_⟩, rfl, hi⟩
  · have := p.1
    dsimp only at l ⊢
    omega
  · have := p.1
    dsimp only at l ⊢
    omega
theorem FI.b0 {kd ph bg pr : Int} {O : List Int} (h : FI (kd, ph, bg, pr, O)) : FI (kd, ph, 0, pr, O) := ⟨h.1, h.2.1, h.2.2.1, h.2.2.2.1, fun z => absurd (show (0 : Int) = 1 from z) (by decide), Or.inl rfl⟩
theorem FI.b2 {kd ph bg pr : Int} {O : List Int} (h : FI (kd, ph, bg, pr, O)) : FI (kd, 2, 0, pr, O) := ⟨h.1, h.2.1, h.2.2.1, fun _ z => absurd (show (2 : Int) = 0 from z) (by decide), fun z => absurd (show (0 : Int) = 1 from z) (by decide), Or.inl rfl⟩
theorem FI.nw {kd pr : Int} (h : kd = 3 ∨ kd = 4 → pr ≤ -6) : FI (kd, 0, 1, pr, []) := ⟨True.intro, fun o ho => absurd ho (List.not_mem_nil), h, fun _ _ o ho => absurd ho (List.not_mem_nil), fun _ o ho => absurd ho (List.not_mem_nil), Or.inr rfl⟩
theorem iv_op {T : Int → Int} {n kd pr : Int} {s : zRd} {C : List Int} {F : List zFr} {c' : zCf} (hn : 0 ≤ n) (ok : AOk (toks T n)) (hs : s.1 < (toks T n).length) (f : s.2.1 = 0) (k0 : (tkI (toks T n) s.1).1 ≠ 0) (hF : FB F) (h1 : 1 ≤ F.length ∧ F.length ≤ 9) (i1 : C.length + opsN F + F.length ≤ s.1 + 1) (p : P4 T n s F) (hp : kd = 3 ∨ kd = 4 → pr ≤ -6) (e : opF (toks T n) s C kd pr F = .inl c') : IV T n c' ∧ c'.1.1 < (toks T n).length := by
  unfold opF at e
  by_cases z : F.length = 9
  · rw [if_pos z] at e; cases e
  rw [if_neg z] at e
  have e' := Sum.inl.inj e
  rw [← e']
  have q := p.a (F' := (kd, 0, 1, pr, []) :: F) hn ok hs k0 f (by show 0 + nN F ≤ nN F; omega)
  refine ⟨⟨⟨?_, ?_⟩, ⟨FI.nw hp, fun w => (nomatch w), fun _ => h1.1, hF⟩, q.1⟩, q.2.2⟩
  · show C.length + (0 + opsN F) + (F.length + 1) ≤ (advS s).1 + 1
    rw [q.2.1]; omega
  · show F.length + 1 ≤ 9
    omega
theorem FB.tr {F : List zFr} (h : FB F) (h1 : 1 ≤ F.length) : FT true F := by
  cases F with
  | nil => exact absurd h1 (by show ¬ 1 ≤ 0; omega)
  | cons f R => exact ⟨h.1.1, fun _ => h.1.2.1, h.1.2.2, h.2⟩
theorem iv_pt {T : Int → Int} {n : Int} {s : zRd} {C : List Int} {F : List zFr} {c' : zCf} (hn : 0 ≤ n) (ok : AOk (toks T n)) (hs : s.1 < (toks T n).length) (hF : FB F) (h1 : 1 ≤ F.length ∧ F.length ≤ 9) (i1 : C.length + opsN F + F.length ≤ s.1 + 1) (p : P4 T n s F) (e : ptF (toks T n) s C F = .inl c') : IV T n c' ∧ c'.1.1 < (toks T n).length := by
  have go : ∀ x, s.2.1 = 0 → (tkI (toks T n) s.1).1 ≠ 0 → (.inl (advS s, putA C x, true, F) : zCf ⊕ zLx) = .inl c' → IV T n c' ∧ c'.1.1 < (toks T n).length := by
    intro x f k0 e
    have e' := Sum.inl.inj e
    rw [← e']
    have q := p.a (F' := F) hn ok hs k0 f (Nat.le_refl _)
    refine ⟨⟨⟨?_, h1.2⟩, hF.tr h1.1, q.1⟩, q.2.2⟩
    have := @put_l C x
    show (putA C x).length + opsN F + F.length ≤ (advS s).1 + 1
    rw [q.2.1]; omega
  unfold ptF at e
  by_cases c3 : kdS (toks T n) s = 3
  · rw [if_pos c3] at e
    have g := kd_0 c3 (by decide)
    exact go _ g.1 (by rw [g.2]; decide) e
  rw [if_neg c3] at e
  by_cases c1 : sgS (toks T n) 2 24 s = true ∨ sgS (toks T n) 2 25 s = true
  · rw [if_pos c1] at e
    have g : s.2.1 = 0 ∧ (tkI (toks T n) s.1).1 = 2 := by
      rcases c1 with z | z
      · exact ⟨(sg_k (by decide) z).1, (sg_k (by decide) z).2.1⟩
      · exact ⟨(sg_k (by decide) z).1, (sg_k (by decide) z).2.1⟩
    by_cases z : sgS (toks T n) 4 40 (advS s) = true
    · rw [if_pos z] at e
      have q := p.a (F' := F) hn ok hs (by rw [g.2]; decide) g.1 (Nat.le_refl _)
      have gz := sg_k (by decide) z
      exact iv_op hn ok q.2.2 gz.1 (by rw [gz.2.1]; decide) hF h1 (by rw [q.2.1]; omega) q.1 (fun _ => by split <;> decide) e
    · rw [if_neg z] at e; cases e
  rw [if_neg c1] at e
  by_cases c4 : sgS (toks T n) 4 40 s = true
  · rw [if_pos c4] at e
    have gz := sg_k (by decide) c4
    exact iv_op hn ok hs gz.1 (by rw [gz.2.1]; decide) hF h1 i1 p (fun w => absurd w (by decide)) e
  rw [if_neg c4] at e
  by_cases c5 : kdS (toks T n) s = 2 ∧ fcA (tkI (toks T n) s.1).2.2.1 ≠ 0
  · rw [if_pos c5] at e
    have g := kd_0 c5.1 (by decide)
    exact go _ g.1 (by rw [g.2]; decide) e
  · rw [if_neg c5] at e; cases e
theorem iv_F {T : Int → Int} {n kd ph bg pr : Int} {s : zRd} {C O : List Int} {R : List zFr} {c' : zCf} (hn : 0 ≤ n) (ok : AOk (toks T n)) (hs : s.1 < (toks T n).length) (i : IV T n (s, C, false, (kd, ph, bg, pr, O) :: R)) (e : stpF (toks T n) s C (kd, ph, bg, pr, O) R = .inl c') : IV T n c' ∧ c'.1.1 < (toks T n).length := by
  obtain ⟨⟨i1, i2⟩, ⟨g1, g2, g3, g4⟩, p⟩ := i
  dsimp only at i1 i2
  have i1' : C.length + (O.length + opsN R) + (R.length + 1) ≤ s.1 + 1 := i1
  have i2' : R.length + 1 ≤ 9 := i2
  have p0 : P4 T n s ((kd, ph, 0, pr, O) :: R) := p
  have fb : FB ((kd, ph, 0, pr, O) :: R) := ⟨⟨g1.b0, rfl, g3⟩, g4⟩
  unfold stpF at e
  dsimp only at e
  by_cases t : (kd = 1 ∨ kd = 5) ∧ bg = 1
  case neg =>
    rw [if_neg t] at e
    exact iv_pt hn ok hs fb ⟨by show 1 ≤ R.length + 1; omega, i2⟩ i1 p0 e
  rw [if_pos t] at e
  by_cases c1 : sgS (toks T n) 2 20 s = true
  · rw [if_pos c1] at e
    have e' := Sum.inl.inj e
    rw [← e']
    have gz := sg_k (by decide) c1
    have k0 : (tkI (toks T n) s.1).1 ≠ 0 := by rw [gz.2.1]; decide
    have hi := ok.2.1 s.1 hs k0
    have l := tk_L2 hn hi gz.2.1 gz.2.2
    have pk := p0.2 gz.2.1
    have ea := adv_e gz.1
    have en : (nN ((kd, ph, bg, pr, -18 :: O) :: R) : Int) = (nN ((kd, ph, 0, pr, O) :: R) : Int) + 1 := by
      show (((if (-18 : Int) = -18 then 1 else 0) + nO1 O + nN R : Nat) : Int) = ((nO1 O + nN R : Nat) : Int) + 1
      rw [if_pos rfl]
      omega
    refine ⟨⟨⟨?_, i2⟩, ⟨⟨⟨fun q hq => ?_, g1.1⟩, fun o ho => ?_, g1.2.2.1, fun w1 w2 o ho => ?_, fun w o ho => ?_, g1.2.2.2.2.2⟩, fun w => (nomatch w), g3, g4⟩, ?_, fun w => ?_⟩, ?_⟩
    · show C.length + (O.length + 1 + opsN R) + (R.length + 1) ≤ (advS s).1 + 1
      rw [ea]
      show _ ≤ s.1 + 1 + 1
      omega
    · have r3 := g1.2.2.2.2.1 t.2 q (List.mem_of_mem_head? hq)
      by_cases z : q = -18
      · exact Or.inr ⟨rfl, z⟩
      · refine Or.inl ?_
        have := rk_3 z
        have e18 : rkA (-18) = 3 := by decide
        rw [e18]
        omega
    · rcases List.mem_cons.1 ho with z | z
      · rw [z]; decide
      · exact g1.2.1 o z
    · rcases List.mem_cons.1 ho with z | z
      · rw [z]; decide
      · exact g1.2.2.2.1 w1 w2 o z
    · rcases List.mem_cons.1 ho with z | z
      · rw [z]; decide
      · exact g1.2.2.2.2.1 t.2 o z
    · dsimp only
      rw [ea, en]
      dsimp only
      omega
    · dsimp only at w ⊢
      rw [ea] at w ⊢
      rw [en]
      have := l.2 w
      dsimp only
      omega
    · dsimp only
      rw [ea]
      exact hi
  rw [if_neg c1] at e
  by_cases c2 : sgS (toks T n) 4 91 s = true
  · rw [if_pos c2] at e
    have gz := sg_k (by decide) c2
    exact iv_op hn ok hs gz.1 (by rw [gz.2.1]; decide) fb ⟨by show 1 ≤ R.length + 1; omega, i2⟩ i1 p0 (fun w => absurd w (by decide)) e
  rw [if_neg c2] at e
  by_cases c3 : sgS (toks T n) 2 21 s = true
  · rw [if_pos c3] at e
    have gz := sg_k (by decide) c3
    have e' := Sum.inl.inj e
    rw [← e']
    have q := p0.a (F' := (kd, 2, 0, pr, O) :: R) hn ok hs (by rw [gz.2.1]; decide) gz.1 (Nat.le_refl _)
    refine ⟨⟨⟨?_, i2⟩, ⟨g1.b2, fun _ => rfl, g3, g4⟩, q.1⟩, q.2.2⟩
    have := @put_l C 1
    show (putA C 1).length + (O.length + opsN R) + (R.length + 1) ≤ (advS s).1 + 1
    rw [q.2.1]; omega
  rw [if_neg c3] at e
  exact iv_pt hn ok hs fb ⟨by show 1 ≤ R.length + 1; omega, i2⟩ i1 p0 e
theorem iv_hd {T : Int → Int} {n kd ph bg pr ph' bg' x m : Int} {s : zRd} {C O : List Int} {R : List zFr} {c' : zCf} (hn : 0 ≤ n) (ok : AOk (toks T n)) (hs : s.1 < (toks T n).length) (f : s.2.1 = 0) (k0 : (tkI (toks T n) s.1).1 ≠ 0) (i : IV T n (s, C, true, (kd, ph, bg, pr, O) :: R)) (hx : x ≤ -6 ∧ x ≠ -18) (fi : FI (kd, ph', bg', pr, x :: (jnA m O C).1)) (e : hdF s (kd, ph, bg, pr, O) ph' bg' x (jnA m O C) R = .inl c') : IV T n c' ∧ c'.1.1 < (toks T n).length := by
  obtain ⟨⟨i1, i2⟩, ⟨g1, g2, g3, g4⟩, p⟩ := i
  dsimp only at i1 i2
  have i1' : C.length + (O.length + opsN R) + (R.length + 1) ≤ s.1 + 1 := i1
  have hA := ok.1
  have jl := jn_l (m := m) O C (by omega)
  have jo := jn_o (m := m) O C g1.1
  have e' := Sum.inl.inj e
  rw [← e']
  have p0 : P4 T n s ((kd, ph, bg, pr, O) :: R) := p
  have q := p0.a (F' := (kd, ph', bg', pr, x :: (jnA m O C).1) :: R) hn ok hs k0 f (by show (if x = -18 then 1 else 0) + nO1 (jnA m O C).1 + nN R ≤ nO1 O + nN R; rw [if_neg hx.2]; omega)
  refine ⟨⟨⟨?_, i2⟩, ⟨fi, fun w => (nomatch w), g3, g4⟩, q.1⟩, q.2.2⟩
  show (jnA m O C).2.length + ((jnA m O C).1.length + 1 + opsN R) + (R.length + 1) ≤ (advS s).1 + 1
  rw [q.2.1]
  omega
