/-! a reader of tokens: which token comes, the fault (0 none), where it is -/
abbrev zRd : Type := Nat × Int × Int
def tkI (A : List zTk) (i : Nat) : zTk := A.getD i (0, 0, 0, 0, [])
def unf (t : zTk) : Int := if t.1 = 5 then t.2.2.1 else t.2.1
def kdS (A : List zTk) (s : zRd) : Int := if s.2.1 = 0 then (tkI A s.1).1 else 5
def advS (s : zRd) : zRd := if s.2.1 = 0 then (s.1 + 1, s.2) else s
def flS (k p : Int) (s : zRd) : zRd := if s.2.1 = 0 then (s.1, k, p) else s
/-- tokens in order: none but the last is the end -/
def AOk (A : List zTk) : Prop := (A.length : Int) ≤ 1601 ∧ (∀ i, i < A.length → (tkI A i).1 ≠ 0 → i + 1 < A.length) ∧
  ∀ i, i < A.length → (0 ≤ (tkI A i).2.1 ∧ (tkI A i).2.1 ≤ 1600) ∧ ((tkI A i).1 = 3 → 0 ≤ (tkI A i).2.2.1 ∧ (tkI A i).2.2.1 ≤ 9999) ∧ ((tkI A i).1 = 2 → 0 ≤ (tkI A i).2.2.1 ∧ (tkI A i).2.2.1 < 26)
/-- the class's reader -/
def TC (A : List zTk) (s : zRd) (h : zH) : Prop := TkR A h ∧ (h 5 11 = s.2.1 ∧ h 5 12 = s.2.2 ∧ h 5 6 = kdS A s ∧ s.1 < A.length) ∧
  (s.2.1 = 0 → h 5 5 = (s.1 : Int) ∧ h 5 7 = (tkI A s.1).2.1 ∧ h 5 8 = (tkI A s.1).2.2.1 ∧ h 5 9 = unf (tkI A s.1) ∧ (0 < s.1 → h 5 10 = (tkI A (s.1 - 1)).2.1))
def frA (h h' : zH) : Prop := (∀ r, r ≠ 5 → h' r = h r) ∧ ∀ q, q < 5 ∨ 12 < q → h' 5 q = h 5 q
theorem frA.rf (h : zH) : frA h h := ⟨fun _ _ => rfl, fun _ _ => rfl⟩
theorem frA.t {a b c : zH} (h1 : frA a b) (h2 : frA b c) : frA a c := ⟨fun r x => (h2.1 r x).trans (h1.1 r x), fun q x => (h2.2 q x).trans (h1.2 q x)⟩
theorem TkR.fr {A : List zTk} {h h' : zH} (k : TkR A h) (e : h' 5 4 = h 5 4) (r : ∀ r, r = 7 ∨ r = 8 ∨ r = 9 → h' r = h r) : TkR A h' := by
  unfold TkR at k ⊢
  rw [e, r 7 (by decide), r 8 (by decide), r 9 (by decide)]
  exact k
theorem TkR.g {A : List zTk} {h : zH} (k : TkR A h) {i : Nat} (hi : i < A.length) : h 7 (i : Int) = (tkI A i).1 ∧ h 8 (i : Int) = (tkI A i).2.1 ∧ h 9 (i : Int) = (tkI A i).2.2.1 := by
  have := k.2 i (tkI A i) (by unfold tkI; rw [List.getD_eq_getElem?_getD, List.getElem?_eq_getElem hi]; rfl)
  exact this
theorem q_adv {d : Nat} {A : List zTk} {s : zRd} {h : zH} (ok : AOk A) (c : TC A s h) (hk : s.2.1 = 0 → (tkI A s.1).1 ≠ 0) : zWp (m_Tokens_advance (d + 1) 5 h) (fun _ h' => TC A (advS s) h' ∧ frA h h') := by
  obtain ⟨tk, ⟨c1, c2, c3, c4⟩, c5⟩ := c
  rw [em_Tokens_advance]
  refine zWp_po (by decide) (zWp_po (by decide) (zWp_lt fun h1 e1 => zWp_po (by decide) ?_))
  have s1 : ∀ q, q ≠ 10 → h1 5 q = h 5 q := fun q hq => by rw [e1, zset_j hq]
  have r1 : ∀ r, r ≠ 5 → h1 r = h r := fun r hr => by rw [e1, zset_n hr]
  rw [s1 11 (by decide), c1]
  by_cases f0 : s.2.1 = 0
  case neg =>
    refine zWp_nt f0 (zWp_s ?_)
    unfold advS
    rw [if_neg f0]
    refine ⟨⟨tk.fr (s1 4 (by decide)) (fun r hr => r1 r (by omega)), ⟨by rw [s1 11 (by decide)]; exact c1, by rw [s1 12 (by decide)]; exact c2, by rw [s1 6 (by decide)]; exact c3, c4⟩, fun z => absurd z f0⟩, r1, fun q hq => s1 q (by omega)⟩
  obtain ⟨v1, v2, v3, v4, v5⟩ := c5 f0
  have hlt := ok.2.1 s.1 c4 (hk f0)
  have hA := ok.1
  have g := tk.g hlt
  have eI : ((s.1 + 1 : Nat) : Int) = (s.1 : Int) + 1 := rfl
  rw [eI] at g
  rw [s1 5 (by decide), v1, s1 4 (by decide), tk.1, w32_i (x := (s.1 : Int) + 1) (by omega)]
  refine zWp_it f0 (zWp_po (by decide) (zWp_po (by decide) (zWp_it (by omega) (zWp_po (by decide) (zWp_po (by decide) (zWp_lt fun h2 e2 => ?_))))))
  have s2 : h2 5 5 = (s.1 : Int) + 1 := by rw [e2, zset_e]
  have t2 : ∀ q, q ≠ 5 → h2 5 q = h1 5 q := fun q hq => by rw [e2, zset_j hq]
  have r2 : ∀ r, r ≠ 5 → h2 r = h r := fun r hr => by rw [e2, zset_n hr, r1 r hr]
  rw [s2, show (5 + 2 : Int) = 7 from rfl, show (5 + 3 : Int) = 8 from rfl, show (5 + 4 : Int) = 9 from rfl, r2 7 (by decide), g.1]
  refine zWp_po (by decide) (zWp_po (by decide) (zWp_po (by decide) (zWp_it (by omega) (zWp_po (by decide) (zWp_lt fun h3 e3 => ?_)))))
  have s3 : h3 5 5 = (s.1 : Int) + 1 := by rw [e3, zset_j (by decide)]; exact s2
  have r3 : ∀ r, r ≠ 5 → h3 r = h r := fun r hr => by rw [e3, zset_n hr, r2 r hr]
  rw [s3, r3 8 (by decide), g.2.1]
  refine zWp_po (by decide) (zWp_po (by decide) (zWp_po (by decide) (zWp_it (by omega) (zWp_po (by decide) (zWp_lt fun h4 e4 => ?_)))))
  have s4 : h4 5 5 = (s.1 : Int) + 1 := by rw [e4, zset_j (by decide)]; exact s3
  have r4 : ∀ r, r ≠ 5 → h4 r = h r := fun r hr => by rw [e4, zset_n hr, r3 r hr]
  rw [s4, r4 9 (by decide), g.2.2]
  refine zWp_po (by decide) (zWp_po (by decide) (zWp_po (by decide) (zWp_it (by omega) (zWp_po (by decide) (zWp_lt fun h5 e5 => ?_)))))
  have r5 : ∀ r, r ≠ 5 → h5 r = h r := fun r hr => by rw [e5, zset_n hr, r4 r hr]
  have k6 : h5 5 6 = (tkI A (s.1 + 1)).1 := by rw [e5, zset_j (by decide), e4, zset_j (by decide), e3, zset_e]
  have k7 : h5 5 7 = (tkI A (s.1 + 1)).2.1 := by rw [e5, zset_j (by decide), e4, zset_e]
  have k8 : h5 5 8 = (tkI A (s.1 + 1)).2.2.1 := by rw [e5, zset_e]
  have k5 : h5 5 5 = (s.1 : Int) + 1 := by rw [e5, zset_j (by decide)]; exact s4
  have k10 : h5 5 10 = (tkI A s.1).2.1 := by rw [e5, zset_j (by decide), e4, zset_j (by decide), e3, zset_j (by decide), e2, zset_j (by decide), e1, zset_e]; exact v2
  have kq : ∀ q, ¬ (5 ≤ q ∧ q ≤ 8 ∨ q = 10) → h5 5 q = h 5 q := fun q hq => by rw [e5, zset_j (by omega), e4, zset_j (by omega), e3, zset_j (by omega), t2 q (by omega), s1 q (by omega)]
  have fin : ∀ h6 x, h6 = zset h5 5 9 x → x = unf (tkI A (s.1 + 1)) → TC A (advS s) h6 ∧ frA h h6 := by
    intro h6 x e6 ex
    have q6 : ∀ q, q ≠ 9 → h6 5 q = h5 5 q := fun q hq => by rw [e6, zset_j hq]
    have r6 : ∀ r, r ≠ 5 → h6 r = h r := fun r hr => by rw [e6, zset_n hr, r5 r hr]
    have ea : advS s = (s.1 + 1, s.2) := by unfold advS; rw [if_pos f0]
    rw [ea]
    refine ⟨⟨tk.fr (by rw [q6 4 (by decide), kq 4 (by decide)]) (fun r hr => r6 r (by omega)), ⟨by rw [q6 11 (by decide), kq 11 (by decide)]; exact c1, by rw [q6 12 (by decide), kq 12 (by decide)]; exact c2, ?_, hlt⟩, fun _ => ⟨by rw [q6 5 (by decide), k5]; rfl, by rw [q6 7 (by decide), k7], by rw [q6 8 (by decide), k8], by rw [e6, zset_e, ex], fun _ => by rw [q6 10 (by decide), k10]; rfl⟩⟩, r6, fun q hq => by rw [q6 q (by omega), kq q (by omega)]⟩
    rw [q6 6 (by decide), k6]
    unfold kdS
    rw [if_pos (show ((s.1 + 1, s.2) : zRd).2.1 = 0 from f0)]
  refine zWp_po (by decide) ?_
  rw [k6, k7, k8]
  by_cases c6 : (tkI A (s.1 + 1)).1 = 5
  · exact zWp_it c6 (zWp_po (by decide) (zWp_po (by decide) (zWp_lt fun h6 e6 => zWp_s (fin h6 _ e6 (by unfold unf; rw [if_pos c6])))))
  · exact zWp_nt c6 (zWp_po (by decide) (zWp_po (by decide) (zWp_lt fun h6 e6 => zWp_s (fin h6 _ e6 (by unfold unf; rw [if_neg c6])))))
theorem q_fail {d : Nat} {A : List zTk} {s : zRd} {k p : Int} {h : zH} (c : TC A s h) (hk : k ≠ 0) : zWp (m_Tokens_fail (d + 1) 5 k p h) (fun _ h' => TC A (flS k p s) h' ∧ frA h h') := by
  have c0 := c
  obtain ⟨tk, ⟨c1, c2, c3, c4⟩, c5⟩ := c
  rw [em_Tokens_fail, c1]
  refine zWp_po (by decide) ?_
  unfold flS
  by_cases f0 : s.2.1 = 0
  · rw [if_pos (c := s.2.1 = 0) (t := ((s.1, k, p) : zRd)) f0]
    refine zWp_it f0 (zWp_po (by decide) (zWp_lt fun h1 e1 => zWp_po (by decide) (zWp_lt fun h2 e2 => zWp_po (by decide) (zWp_lt fun h3 e3 => zWp_s ?_))))
    have r3 : ∀ r, r ≠ 5 → h3 r = h r := fun r hr => by rw [e3, zset_n hr, e2, zset_n hr, e1, zset_n hr]
    have q3 : ∀ q, ¬ (q = 6 ∨ q = 11 ∨ q = 12) → h3 5 q = h 5 q := fun q hq => by rw [e3, zset_j (by omega), e2, zset_j (by omega), e1, zset_j (by omega)]
    refine ⟨⟨tk.fr (q3 4 (by decide)) (fun r hr => r3 r (by omega)), ⟨by rw [e3, zset_j (by decide), e2, zset_j (by decide), e1, zset_e], by rw [e3, zset_j (by decide), e2, zset_e], by rw [e3, zset_e]; unfold kdS; rw [if_neg hk], c4⟩, fun z => absurd z hk⟩, r3, fun q hq => q3 q (by omega)⟩
  · rw [if_neg (c := s.2.1 = 0) (t := ((s.1, k, p) : zRd)) f0]
    exact zWp_nt f0 (zWp_s ⟨c0, frA.rf h⟩)
theorem flS_p {k p q : Int} {s : zRd} (h : s.2.1 = 0 → p = q) : flS k p s = flS k q s := by
  unfold flS
  by_cases c : s.2.1 = 0
  · rw [if_pos c, if_pos c, h c]
  · rw [if_neg c, if_neg c]
theorem TC.k {A : List zTk} {s : zRd} {h : zH} (c : TC A s h) : h 5 6 = kdS A s := c.2.1.2.2.1
theorem kd_0 {A : List zTk} {s : zRd} {k : Int} (h : kdS A s = k) (hk : k ≠ 5) : s.2.1 = 0 ∧ (tkI A s.1).1 = k := by
  unfold kdS at h
  by_cases c : s.2.1 = 0
  · rw [if_pos c] at h; exact ⟨c, h⟩
  · rw [if_neg c] at h; exact absurd h.symm hk
def sgS (A : List zTk) (k x : Int) (s : zRd) : Bool := decide (kdS A s = k ∧ (tkI A s.1).2.2.1 = x)
theorem q_isSg {d : Nat} {A : List zTk} {s : zRd} {x : Int} {h : zH} (c : TC A s h) : m_Tokens_isSign (d + 1) 5 x h = some (.inl (if sgS A 4 x s = true then 1 else 0), h) := by
  rw [em_Tokens_isSign, zpo_t (by decide), zpo_t (by decide), c.k]
  unfold sgS
  by_cases c1 : kdS A s = 4
  · have f := kd_0 c1 (by decide)
    rw [zit_t c1, (c.2.2 f.1).2.2.1]
    by_cases c2 : (tkI A s.1).2.2.1 = x
    · rw [zit_t c2, decide_eq_true ⟨c1, c2⟩]; rfl
    · rw [zit_f c2, decide_eq_false (fun z => c2 z.2)]; rfl
  · rw [zit_f c1, decide_eq_false (fun z => c1 z.1)]; rfl
theorem q_isOw {d : Nat} {A : List zTk} {s : zRd} {x : Int} {h : zH} (c : TC A s h) : m_Tokens_isOwn (d + 1) 5 x h = some (.inl (if sgS A 2 x s = true then 1 else 0), h) := by
  rw [em_Tokens_isOwn, zpo_t (by decide), zpo_t (by decide), c.k]
  unfold sgS
  by_cases c1 : kdS A s = 2
  · have f := kd_0 c1 (by decide)
    rw [zit_t c1, (c.2.2 f.1).2.2.1]
    by_cases c2 : (tkI A s.1).2.2.1 = x
    · rw [zit_t c2, decide_eq_true ⟨c1, c2⟩]; rfl
    · rw [zit_f c2, decide_eq_false (fun z => c2 z.2)]; rfl
  · rw [zit_f c1, decide_eq_false (fun z => c1 z.1)]; rfl
/-- a sign (4) or an own word (2) must come -/
def ndS (A : List zTk) (k x : Int) (s : zRd) : zRd := if sgS A k x s = true then advS s else flS 1 (unf (tkI A s.1)) s
theorem q_ndSg {d : Nat} {A : List zTk} {s : zRd} {x : Int} {h : zH} (ok : AOk A) (c : TC A s h) : zWp (m_Tokens_needSign (d + 2) 5 x h) (fun _ h' => TC A (ndS A 4 x s) h' ∧ frA h h') := by
  rw [em_Tokens_needSign, c.k]
  have bad : ¬ sgS A 4 x s = true → zWp (m_Tokens_fail (d + 1) 5 1 (h 5 9) h) (fun _ h' => TC A (ndS A 4 x s) h' ∧ frA h h') := by
    intro z
    unfold ndS
    rw [if_neg z, flS_p (p := unf (tkI A s.1)) (q := h 5 9) (fun f => (c.2.2 f).2.2.2.1.symm)]
    exact q_fail c (by decide)
  refine zWp_po (by decide) ?_
  by_cases c1 : kdS A s = 4
  · have f := kd_0 c1 (by decide)
    rw [(c.2.2 f.1).2.2.1]
    refine zWp_it c1 (zWp_po (by decide) ?_)
    by_cases c2 : (tkI A s.1).2.2.1 = x
    · have g : sgS A 4 x s = true := decide_eq_true ⟨c1, c2⟩
      refine zWp_it c2 (zWp_po (by decide) (zWp_bv (q_adv (d := d) ok c (fun _ => by rw [f.2]; decide)) (fun _ h1 u => zWp_s ?_)))
      unfold ndS
      rw [if_pos g]
      exact u
    · exact zWp_nt c2 (zWp_po (by decide) (zWp_po (by decide) (zWp_bv (bad (fun z => c2 (of_decide_eq_true z).2)) (fun _ h1 u => zWp_s u))))
  · exact zWp_nt c1 (zWp_po (by decide) (zWp_po (by decide) (zWp_bv (bad (fun z => c1 (of_decide_eq_true z).1)) (fun _ h1 u => zWp_s u))))
theorem q_ndOw {d : Nat} {A : List zTk} {s : zRd} {x : Int} {h : zH} (ok : AOk A) (c : TC A s h) : zWp (m_Tokens_needOwn (d + 2) 5 x h) (fun _ h' => TC A (ndS A 2 x s) h' ∧ frA h h') := by
  rw [em_Tokens_needOwn, c.k]
  have bad : ¬ sgS A 2 x s = true → zWp (m_Tokens_fail (d + 1) 5 1 (h 5 9) h) (fun _ h' => TC A (ndS A 2 x s) h' ∧ frA h h') := by
    intro z
    unfold ndS
    rw [if_neg z, flS_p (p := unf (tkI A s.1)) (q := h 5 9) (fun f => (c.2.2 f).2.2.2.1.symm)]
    exact q_fail c (by decide)
  refine zWp_po (by decide) ?_
  by_cases c1 : kdS A s = 2
  · have f := kd_0 c1 (by decide)
    rw [(c.2.2 f.1).2.2.1]
    refine zWp_it c1 (zWp_po (by decide) ?_)
    by_cases c2 : (tkI A s.1).2.2.1 = x
    · have g : sgS A 2 x s = true := decide_eq_true ⟨c1, c2⟩
      refine zWp_it c2 (zWp_po (by decide) (zWp_bv (q_adv (d := d) ok c (fun _ => by rw [f.2]; decide)) (fun _ h1 u => zWp_s ?_)))
      unfold ndS
      rw [if_pos g]
      exact u
    · exact zWp_nt c2 (zWp_po (by decide) (zWp_po (by decide) (zWp_bv (bad (fun z => c2 (of_decide_eq_true z).2)) (fun _ h1 u => zWp_s u))))
  · exact zWp_nt c1 (zWp_po (by decide) (zWp_po (by decide) (zWp_bv (bad (fun z => c1 (of_decide_eq_true z).1)) (fun _ h1 u => zWp_s u))))
/-- a number must come -/
def nbS (A : List zTk) (lo hi : Int) (s : zRd) : Int × zRd :=
  if kdS A s = 3 then (if lo ≤ (tkI A s.1).2.2.1 ∧ (tkI A s.1).2.2.1 ≤ hi then ((tkI A s.1).2.2.1, advS s) else (-1, flS 4 (tkI A s.1).2.1 s)) else (-1, flS 1 (unf (tkI A s.1)) s)
theorem q_ndNb {d : Nat} {A : List zTk} {s : zRd} {lo hi : Int} {h : zH} (ok : AOk A) (c : TC A s h) : zWp (m_Tokens_needNumber (d + 2) 5 lo hi h) (fun v h' => v = .inl (nbS A lo hi s).1 ∧ TC A (nbS A lo hi s).2 h' ∧ frA h h') := by
  rw [em_Tokens_needNumber, c.k]
  refine zWp_po (by decide) (zWp_po (by decide) ?_)
  unfold nbS
  by_cases c1 : kdS A s = 3
  · have f := kd_0 c1 (by decide)
    rw [(c.2.2 f.1).2.2.1]
    refine zWp_it c1 ?_
    rw [if_pos c1]
    have bad : ¬ (lo ≤ (tkI A s.1).2.2.1 ∧ (tkI A s.1).2.2.1 ≤ hi) → zWp (l_Tokens_needNumber_34 (d + 1) 5 h) (fun v h' => v = .inl (if lo ≤ (tkI A s.1).2.2.1 ∧ (tkI A s.1).2.2.1 ≤ hi then ((tkI A s.1).2.2.1, advS s) else (-1, flS 4 (tkI A s.1).2.1 s)).1 ∧ TC A (if lo ≤ (tkI A s.1).2.2.1 ∧ (tkI A s.1).2.2.1 ≤ hi then ((tkI A s.1).2.2.1, advS s) else (-1, flS 4 (tkI A s.1).2.1 s)).2 h' ∧ frA h h') := by
      intro z
      rw [if_neg z, el_Tokens_needNumber_34, (c.2.2 f.1).2.1]
      exact zWp_po (by decide) (zWp_po (by decide) (zWp_bv (q_fail (d := d) c (by decide)) (fun _ h1 u => zWp_s ⟨rfl, u⟩)))
    by_cases c2 : (tkI A s.1).2.2.1 < lo
    · exact zWp_it c2 (bad (fun z => by omega))
    refine zWp_nt c2 ?_
    by_cases c3 : hi < (tkI A s.1).2.2.1
    · exact zWp_it c3 (bad (fun z => by omega))
    rw [if_pos (c := lo ≤ (tkI A s.1).2.2.1 ∧ (tkI A s.1).2.2.1 ≤ hi) (by omega)]
    exact zWp_nt c3 (zWp_po (by decide) (zWp_bv (q_adv (d := d) ok c (fun _ => by rw [f.2]; decide)) (fun _ h1 u => zWp_s ⟨rfl, u⟩)))
  · rw [if_neg (c := kdS A s = 3) (t := if lo ≤ (tkI A s.1).2.2.1 ∧ (tkI A s.1).2.2.1 ≤ hi then ((tkI A s.1).2.2.1, advS s) else (-1, flS 4 (tkI A s.1).2.1 s)) c1, flS_p (p := unf (tkI A s.1)) (q := h 5 9) (fun f => (c.2.2 f).2.2.2.1.symm)]
    exact zWp_nt c1 (zWp_po (by decide) (zWp_po (by decide) (zWp_bv (q_fail (d := d) c (by decide)) (fun _ h1 u => zWp_s ⟨rfl, u⟩))))
/-- a name must come -/
def nmS (A : List zTk) (s : zRd) : Int × zRd := if kdS A s = 1 then ((tkI A s.1).2.2.1, advS s) else (-1, flS 1 (unf (tkI A s.1)) s)
theorem q_ndNm {d : Nat} {A : List zTk} {s : zRd} {h : zH} (ok : AOk A) (c : TC A s h) : zWp (m_Tokens_needName (d + 2) 5 h) (fun v h' => v = .inl (nmS A s).1 ∧ TC A (nmS A s).2 h' ∧ frA h h') := by
  rw [em_Tokens_needName, c.k]
  refine zWp_po (by decide) (zWp_po (by decide) ?_)
  unfold nmS
  by_cases c1 : kdS A s = 1
  · have f := kd_0 c1 (by decide)
    rw [(c.2.2 f.1).2.2.1]
    refine zWp_it c1 ?_
    rw [if_pos c1]
    exact zWp_po (by decide) (zWp_bv (q_adv (d := d) ok c (fun _ => by rw [f.2]; decide)) (fun _ h1 u => zWp_s ⟨rfl, u⟩))
  · rw [if_neg (c := kdS A s = 1) (t := ((tkI A s.1).2.2.1, advS s)) c1, flS_p (p := unf (tkI A s.1)) (q := h 5 9) (fun f => (c.2.2 f).2.2.2.1.symm)]
    exact zWp_nt c1 (zWp_po (by decide) (zWp_po (by decide) (zWp_bv (q_fail (d := d) c (by decide)) (fun _ h1 u => zWp_s ⟨rfl, u⟩))))
