/-! the reference's reader, by the same tokens -/
def effK (A : List zTk) (s : zRd) : Int := if s.2.1 ≠ 0 then s.2.1 else if (tkI A s.1).1 = 5 then 1 else 0
def effP (A : List zTk) (s : zRd) : Int := if s.2.1 ≠ 0 then s.2.2 else if (tkI A s.1).1 = 5 then (tkI A s.1).2.2.1 else -1
theorem eff_b {A : List zTk} {s : zRd} (c : s.2.1 = 0) : effK A s = (if (tkI A s.1).1 = 5 then 1 else 0) ∧ effP A s = (if (tkI A s.1).1 = 5 then (tkI A s.1).2.2.1 else -1) := ⟨if_neg (fun y => y c), if_neg (fun y => y c)⟩
theorem eff_f {A : List zTk} {s : zRd} (c : s.2.1 ≠ 0) : effK A s = s.2.1 ∧ effP A s = s.2.2 := ⟨if_pos c, if_pos c⟩
def RR (T : Int → Int) (n : Int) (s : zRd) (h : zH) : Prop := ((0 ≤ n ∧ n ≤ 1600) ∧ h 403 2 = n ∧ (∀ j, 0 ≤ j → j < n → h 404 j = T j) ∧ s.1 < (toks T n).length ∧ 0 ≤ s.2.1) ∧
  (h 403 8 = effK (toks T n) s ∧ h 403 9 = effP (toks T n) s) ∧ (effK (toks T n) s = 0 → RTk (tkI (toks T n) s.1) h)
theorem eff_0 {A : List zTk} {s : zRd} (h : effK A s = 0) : s.2.1 = 0 ∧ (tkI A s.1).1 ≠ 5 := by
  unfold effK at h
  by_cases c : s.2.1 = 0
  · refine ⟨c, fun z => ?_⟩
    rw [if_neg (fun y => y c), if_pos z] at h
    exact absurd h (by decide)
  · rw [if_pos c] at h; exact absurd h c
theorem eff_g {A : List zTk} {s : zRd} (h : 0 ≤ s.2.1) : 0 ≤ effK A s := by
  unfold effK
  split
  · exact h
  · split <;> decide
theorem RR.dd {T : Int → Int} {n : Int} {s s' : zRd} {h : zH} (r : RR T n s h) (hd : effK (toks T n) s ≠ 0) (e1 : effK (toks T n) s' = effK (toks T n) s) (e2 : effP (toks T n) s' = effP (toks T n) s) (h1 : s'.1 < (toks T n).length) (h2 : 0 ≤ s'.2.1) : RR T n s' h := by
  obtain ⟨⟨a1, a2, a3, _, _⟩, ⟨b1, b2⟩, _⟩ := r
  exact ⟨⟨a1, a2, a3, h1, h2⟩, ⟨by rw [e1]; exact b1, by rw [e2]; exact b2⟩, fun z => absurd (by rw [← e1]; exact z) hd⟩
theorem RR.fr {T : Int → Int} {n : Int} {s : zRd} {h h' : zH} (r : RR T n s h) (e1 : ∀ q, 2 ≤ q → q ≤ 9 → h' 403 q = h 403 q) (e2 : h' 404 = h 404) : RR T n s h' := by
  unfold RR RTk at r ⊢
  rw [e1 2 (by decide) (by decide), e2, e1 8 (by decide) (by decide), e1 9 (by decide) (by decide), e1 3 (by decide) (by decide), e1 4 (by decide) (by decide), e1 5 (by decide) (by decide), e1 6 (by decide) (by decide), e1 7 (by decide) (by decide)]
  exact r
theorem flS_e {A : List zTk} {s : zRd} {k p : Int} (hd : effK A s = 0) (hk : k ≠ 0) : effK A (flS k p s) = k ∧ effP A (flS k p s) = p := by
  have c := (eff_0 hd).1
  unfold effK effP flS
  rw [if_pos c]
  exact ⟨if_pos hk, if_pos hk⟩
/-- a fault that is there stays -/
theorem flS_d {A : List zTk} {s : zRd} (hd : effK A s ≠ 0) : effK A (flS 1 (unf (tkI A s.1)) s) = effK A s ∧ effP A (flS 1 (unf (tkI A s.1)) s) = effP A s := by
  by_cases c : s.2.1 = 0
  · have c5 : (tkI A s.1).1 = 5 := by
      unfold effK at hd
      rw [if_neg (fun y => y c)] at hd
      by_cases z : (tkI A s.1).1 = 5
      · exact z
      · rw [if_neg z] at hd; exact absurd rfl hd
    have e : flS 1 (unf (tkI A s.1)) s = (s.1, 1, (tkI A s.1).2.2.1) := by unfold flS unf; rw [if_pos c, if_pos c5]
    rw [e, (eff_b (A := A) c).1, (eff_b (A := A) c).2, if_pos c5, if_pos c5]
    exact eff_f (A := A) (s := (s.1, 1, (tkI A s.1).2.2.1)) (show (1 : Int) ≠ 0 by decide)
  · have e : flS 1 (unf (tkI A s.1)) s = s := by unfold flS; rw [if_neg c]
    rw [e]
    exact ⟨rfl, rfl⟩
theorem flS_1 {k p : Int} {s : zRd} : (flS k p s).1 = s.1 := by unfold flS; split <;> rfl
theorem flS_n {k p : Int} {s : zRd} (h : 0 ≤ s.2.1) (hk : 0 ≤ k) : 0 ≤ (flS k p s).2.1 := by
  unfold flS
  split
  · exact hk
  · exact h
theorem kd_d {A : List zTk} {s : zRd} (hd : effK A s ≠ 0) : kdS A s = 5 := by
  unfold kdS
  by_cases c : s.2.1 = 0
  · rw [if_pos c]
    unfold effK at hd
    rw [if_neg (fun y => y c)] at hd
    by_cases z : (tkI A s.1).1 = 5
    · exact z
    · rw [if_neg z] at hd; exact absurd rfl hd
  · rw [if_neg c]
theorem kd_a {A : List zTk} {s : zRd} (hd : effK A s = 0) : kdS A s = (tkI A s.1).1 := by
  unfold kdS
  rw [if_pos (eff_0 hd).1]
theorem RR.de {T : Int → Int} {n : Int} {s : zRd} {h : zH} (r : RR T n s h) (hd : effK (toks T n) s ≠ 0) : RR T n (flS 1 (unf (tkI (toks T n) s.1)) s) h :=
  r.dd hd (flS_d hd).1 (flS_d hd).2 (by rw [flS_1]; exact r.1.2.2.2.1) (flS_n r.1.2.2.2.2 (by decide))
/-- none is blamed who may not be -/
theorem bl_d {T : Int → Int} {n : Int} {s : zRd} {h : zH} {k p : Int} (r : RR T n s h) (hd : effK (toks T n) s ≠ 0) : blH k p h = h := by
  have := eff_g (A := toks T n) r.1.2.2.2.2
  unfold blH
  rw [if_pos (by rw [r.2.1.1]; omega)]
theorem RR.bl {T : Int → Int} {n : Int} {s : zRd} {h : zH} {k p : Int} (r : RR T n s h) (hd : effK (toks T n) s = 0) (hk : 0 < k) : RR T n (flS k p s) (blH k p h) ∧ frE h (blH k p h) := by
  have e : blH k p h = zset (zset h 403 8 k) 403 9 p := by unfold blH; rw [if_neg (by rw [r.2.1.1, hd]; decide)]
  have ef := flS_e (p := p) hd (show k ≠ 0 by omega)
  rw [e]
  refine ⟨⟨⟨r.1.1, by rw [zset_j (by decide), zset_j (by decide)]; exact r.1.2.1, fun j a b => by rw [zset_o (by decide), zset_o (by decide)]; exact r.1.2.2.1 j a b, by rw [flS_1]; exact r.1.2.2.2.1, flS_n r.1.2.2.2.2 (by omega)⟩, ⟨by rw [zset_j (by decide), zset_e, ef.1], by rw [zset_e, ef.2]⟩, fun z => absurd z (by rw [ef.1]; omega)⟩, fun q hq => by rw [zset_n hq, zset_n hq], fun q hq => by rw [zset_j (by omega), zset_j (by omega)]⟩
theorem toks_e {T : Int → Int} {n : Int} {i : Nat} (hi : i < (toks T n).length) (hk : (tkI (toks T n) i).1 ≠ 0) : ∃ b, 0 ≤ b ∧ b < n ∧ tkI (toks T n) i = tkAt T n b := by
  by_cases c : i < (lexF T n n.toNat 0).length
  · obtain ⟨b, b1, b2, b3, b4⟩ := lex_in (T := T) (n := n) n.toNat 0 _ (tkI_m c)
    exact ⟨b, b1, b2, by unfold toks; rw [tkI_l c]; exact b4⟩
  · have el : (toks T n).length = (lexF T n n.toNat 0).length + 1 := by unfold toks; rw [List.length_append]; rfl
    have e : i = (lexF T n n.toNat 0).length := by omega
    have : tkI (toks T n) i = (0, n, 0, n, []) := by unfold toks; rw [e]; exact tkI_r
    rw [this] at hk
    exact absurd rfl hk
theorem q_R_adv {d : Nat} {T : Int → Int} {n : Int} {s : zRd} {h : zH} (r : RR T n s h) (hd : effK (toks T n) s = 0) (hk : (tkI (toks T n) s.1).1 ≠ 0) : zWp (m_R_ahead (d + 2) h) (fun _ h' => RR T n (advS s) h' ∧ frE h h') := by
  have f := eff_0 hd
  obtain ⟨⟨a1, a2, a3, a4, a5⟩, ⟨b1, b2⟩, t⟩ := r
  have t := t hd
  obtain ⟨t1, t2, t3⟩ := t
  have t3 := t3 f.2
  obtain ⟨b, c1, c2, c3⟩ := toks_e a4 hk
  have te := tk_end (T := T) c2
  rw [← c3] at te
  have hl := (toks_ok (T := T) a1).2.1 s.1 a4 hk
  refine zWp_m (q_R_ahead (d := d) (T := T) a1 a3 a2 t3.2.2.1 (by omega) (by rw [b1, hd]) (by rw [t2, if_neg f.2])) (fun _ h' u => ⟨?_, u.2⟩)
  rw [← toks_s (T := T) a1.1 hl] at u
  have es : advS s = (s.1 + 1, s.2) := by unfold advS; rw [if_pos f.1]
  rw [es]
  refine ⟨⟨a1, by rw [u.2.2 2 (by decide)]; exact a2, fun j j1 j2 => by rw [u.2.1 404 (by decide)]; exact a3 j j1 j2, hl, a5⟩, ⟨?_, ?_⟩, fun _ => u.1⟩
  · rw [u.1.1]
    exact (eff_b (A := toks T n) (s := (s.1 + 1, s.2)) f.1).1.symm
  · rw [u.1.2.1]
    exact (eff_b (A := toks T n) (s := (s.1 + 1, s.2)) f.1).2.symm
theorem q_R_isSg {d : Nat} {x : Int} {h : zH} : m_R_isSign (d + 1) x h = some (.inl (if h 403 3 = 3 ∧ h 403 6 = x then 1 else 0), h) := by
  rw [em_R_isSign]
  by_cases c : h 403 3 = 3
  · rw [zit_t c]
    by_cases c2 : h 403 6 = x
    · rw [zit_t c2, if_pos ⟨c, c2⟩]
    · rw [zit_f c2, if_neg (fun z => c2 z.2)]
  · rw [zit_f c, if_neg (fun z => c z.1)]
theorem rsg_3 {t : zTk} (h : t.1 = 0 ∨ t.1 = 1 ∨ t.1 = 2 ∨ t.1 = 3 ∨ t.1 = 4) : rsg t = 3 ↔ t.1 = 4 := by
  unfold rsg
  constructor
  · intro z
    by_cases c0 : t.1 = 0
    · rw [if_pos c0] at z; exact absurd z (by decide)
    rw [if_neg c0] at z
    by_cases c1 : t.1 = 1 ∨ t.1 = 2
    · rw [if_pos c1] at z; exact absurd z (by decide)
    rw [if_neg c1] at z
    by_cases c3 : t.1 = 3
    · rw [if_pos c3] at z; exact absurd z (by decide)
    omega
  · intro z
    rw [if_neg (by omega), if_neg (by omega), if_neg (by omega)]
theorem rsg_2 {t : zTk} (h : t.1 = 0 ∨ t.1 = 1 ∨ t.1 = 2 ∨ t.1 = 3 ∨ t.1 = 4) : rsg t = 2 ↔ t.1 = 3 := by
  unfold rsg
  constructor
  · intro z
    by_cases c0 : t.1 = 0
    · rw [if_pos c0] at z; exact absurd z (by decide)
    rw [if_neg c0] at z
    by_cases c1 : t.1 = 1 ∨ t.1 = 2
    · rw [if_pos c1] at z; exact absurd z (by decide)
    rw [if_neg c1] at z
    by_cases c3 : t.1 = 3
    · exact c3
    · rw [if_neg c3] at z; exact absurd z (by decide)
  · intro z
    rw [if_neg (by omega), if_neg (by omega), if_pos z]
theorem rsg_1 {t : zTk} : rsg t = 1 ↔ t.1 = 1 ∨ t.1 = 2 := by
  unfold rsg
  constructor
  · intro z
    by_cases c0 : t.1 = 0
    · rw [if_pos c0] at z; exact absurd z (by decide)
    rw [if_neg c0] at z
    by_cases c1 : t.1 = 1 ∨ t.1 = 2
    · exact c1
    rw [if_neg c1] at z
    by_cases c3 : t.1 = 3
    · rw [if_pos c3] at z; exact absurd z (by decide)
    · rw [if_neg c3] at z; exact absurd z (by decide)
  · intro z
    rw [if_neg (by omega), if_pos z]
theorem tkAt_k {T : Int → Int} {n a : Int} : (tkAt T n a).1 = 1 ∨ (tkAt T n a).1 = 2 ∨ (tkAt T n a).1 = 3 ∨ (tkAt T n a).1 = 4 ∨ (tkAt T n a).1 = 5 := by
  unfold tkAt
  by_cases c1 : cL (T a) = true
  · rw [if_pos c1]
    show (if adjT T a = true then (5 : Int) else _) = 1 ∨ _
    split
    · exact Or.inr (Or.inr (Or.inr (Or.inr rfl)))
    split
    · exact Or.inr (Or.inr (Or.inr (Or.inr rfl)))
    split
    · exact Or.inl rfl
    · exact Or.inr (Or.inl rfl)
  rw [if_neg c1]
  by_cases c2 : cD (T a) = true
  · rw [if_pos c2]
    show (if adjT T a = true then (5 : Int) else _) = 1 ∨ _
    split
    · exact Or.inr (Or.inr (Or.inr (Or.inr rfl)))
    split
    · exact Or.inr (Or.inr (Or.inr (Or.inr rfl)))
    · exact Or.inr (Or.inr (Or.inl rfl))
  · rw [if_neg c2]
    exact Or.inr (Or.inr (Or.inr (Or.inl rfl)))
theorem tok_k {T : Int → Int} {n : Int} {i : Nat} (hi : i < (toks T n).length) (h5 : (tkI (toks T n) i).1 ≠ 5) : (tkI (toks T n) i).1 = 0 ∨ (tkI (toks T n) i).1 = 1 ∨ (tkI (toks T n) i).1 = 2 ∨ (tkI (toks T n) i).1 = 3 ∨ (tkI (toks T n) i).1 = 4 := by
  by_cases c : (tkI (toks T n) i).1 = 0
  · exact Or.inl c
  · obtain ⟨b, _, _, e⟩ := toks_e hi c
    have := tkAt_k (T := T) (n := n) (a := b)
    rw [← e] at this
    omega
/-- does this sign come? -/
theorem RR.sg {T : Int → Int} {n : Int} {s : zRd} {h : zH} (r : RR T n s h) (hd : effK (toks T n) s = 0) {x : Int} : (h 403 3 = 3 ∧ h 403 6 = x) ↔ sgS (toks T n) 4 x s = true := by
  have f := eff_0 hd
  have t := r.2.2 hd
  have k := tok_k r.1.2.2.2.1 f.2
  have t3 := t.2.2 f.2
  unfold sgS
  rw [decide_eq_true_iff, kd_a hd, t3.1, rsg_3 k]
  constructor
  · intro z
    rw [t3.2.2.2.1 (Or.inr z.1)] at z
    exact z
  · intro z
    rw [t3.2.2.2.1 (Or.inr z.1)]
    exact z
theorem RR.at {T : Int → Int} {n : Int} {s : zRd} {h : zH} (r : RR T n s h) (hd : effK (toks T n) s = 0) : h 403 4 = unf (tkI (toks T n) s.1) ∧ unf (tkI (toks T n) s.1) = (tkI (toks T n) s.1).2.1 := by
  have f := eff_0 hd
  have e : unf (tkI (toks T n) s.1) = (tkI (toks T n) s.1).2.1 := by unfold unf; rw [if_neg f.2]
  rw [e]
  exact ⟨((r.2.2 hd).2.2 f.2).2.1, rfl⟩
theorem nd_d {A : List zTk} {k x : Int} {s : zRd} (hk : k ≠ 5) (hd : effK A s ≠ 0) : ndS A k x s = flS 1 (unf (tkI A s.1)) s := by
  unfold ndS sgS
  rw [if_neg (fun z => hk ((of_decide_eq_true z).1.symm.trans (kd_d hd)))]
theorem q_R_mustS {d : Nat} {T : Int → Int} {n x : Int} {s : zRd} {h : zH} (r : RR T n s h) : zWp (m_R_must (d + 3) x h) (fun _ h' => RR T n (ndS (toks T n) 4 x s) h' ∧ frE h h') := by
  rw [em_R_must]
  refine zWp_qi q_R_isSg ?_
  by_cases hd : effK (toks T n) s = 0
  · by_cases c : h 403 3 = 3 ∧ h 403 6 = x
    · rw [if_pos c]
      refine zWp_nt (by decide) ?_
      rw [el_R_must_17, r.2.1.1]
      have g := (r.sg hd).1 c
      have k : (tkI (toks T n) s.1).1 = 4 := by rw [← kd_a hd]; exact (of_decide_eq_true g).1
      refine zWp_it hd (zWp_bv (q_R_adv (d := d) r hd (by rw [k]; decide)) (fun _ h1 u => zWp_s ?_))
      unfold ndS
      rw [if_pos g]
      exact u
    · rw [if_neg c]
      refine zWp_it rfl (zWp_qv q_R_blame ?_)
      rw [(r.at hd).1]
      have b := r.bl (k := 1) (p := unf (tkI (toks T n) s.1)) hd (by decide)
      rw [el_R_must_17, b.1.2.1.1, (flS_e hd (by decide)).1]
      refine zWp_nt (by decide) (zWp_s ?_)
      unfold ndS
      rw [if_neg (fun z => c ((r.sg hd).2 z))]
      exact b
  · have e8 : ¬ h 403 8 = 0 := by rw [r.2.1.1]; exact hd
    have fin : zWp (l_R_must_17 (d + 2) h) (fun _ h' => RR T n (ndS (toks T n) 4 x s) h' ∧ frE h h') := by
      rw [el_R_must_17, nd_d (by decide) hd]
      exact zWp_nt e8 (zWp_s ⟨r.de hd, frE.rf h⟩)
    refine zWp_if (fun _ => zWp_qv q_R_blame ?_) (fun _ => fin)
    rw [bl_d r hd]
    exact fin
theorem nb_d {A : List zTk} {lo hi : Int} {s : zRd} (hd : effK A s ≠ 0) : nbS A lo hi s = (-1, flS 1 (unf (tkI A s.1)) s) := by
  unfold nbS
  rw [if_neg (by rw [kd_d hd]; decide)]
