/-! the token that comes next, in the reference -/
def nxT (T : Int → Int) (n e : Int) : zTk := if rnE cB T n (n - e).toNat e < n then tkAt T n (rnE cB T n (n - e).toNat e) else (0, n, 0, n, [])
theorem lex_next {T : Int → Int} {n : Int} : ∀ (f : Nat) (a : Int), a ≤ n → n - a ≤ f → tkI (lexF T n f a ++ [(0, n, 0, n, [])]) 0 = nxT T n a ∧ ∀ i, i < (lexF T n f a).length → tkI (lexF T n f a ++ [(0, n, 0, n, [])]) (i + 1) = nxT T n (tkI (lexF T n f a ++ [(0, n, 0, n, [])]) i).2.2.2.1
  | 0, a, h1, h2 => by
    have h2' : n - a ≤ 0 := h2
    refine ⟨?_, fun i hi => absurd hi (Nat.not_lt_zero i)⟩
    have := (rn_b (p := cB) (T := T) (n := n) (n - a).toNat a).1
    unfold nxT
    rw [if_neg (by omega)]
    rfl
  | f + 1, a, h1, h2 => by
    rw [lexF]
    by_cases c : a < n
    case neg =>
      rw [if_neg c]
      refine ⟨?_, fun i hi => absurd hi (Nat.not_lt_zero i)⟩
      have := (rn_b (p := cB) (T := T) (n := n) (n - a).toNat a).1
      unfold nxT
      rw [if_neg (by omega)]
      rfl
    rw [if_pos c]
    by_cases c2 : cB (T a) = true
    · rw [if_pos c2]
      have ih := lex_next (T := T) (n := n) f (a + 1) (by omega) (by omega)
      refine ⟨?_, ih.2⟩
      rw [ih.1]
      unfold nxT
      rw [rn_go c c2]
    · rw [if_neg c2]
      have te := tk_end (T := T) c
      have ih := lex_next (T := T) (n := n) f (tkAt T n a).2.2.2.1 te.2 (by omega)
      refine ⟨?_, fun i hi => ?_⟩
      · unfold nxT
        rw [rn_st (fun z => c2 z.2), if_pos c]
        rfl
      · cases i with
        | zero => exact ih.1
        | succ i =>
          rw [List.length_cons] at hi
          exact ih.2 i (by omega)
theorem toks_0 {T : Int → Int} {n : Int} (hn : 0 ≤ n) : tkI (toks T n) 0 = nxT T n 0 := (lex_next (T := T) (n := n) n.toNat 0 hn (by omega)).1
theorem toks_s {T : Int → Int} {n : Int} (hn : 0 ≤ n) {i : Nat} (hi : i + 1 < (toks T n).length) : tkI (toks T n) (i + 1) = nxT T n (tkI (toks T n) i).2.2.2.1 :=
  (lex_next (T := T) (n := n) n.toNat 0 hn (by omega)).2 i (by unfold toks at hi; rw [List.length_append] at hi; exact Nat.lt_of_succ_lt_succ hi)
def rsg (t : zTk) : Int := if t.1 = 0 then 0 else if t.1 = 1 ∨ t.1 = 2 then 1 else if t.1 = 3 then 2 else 3
/-- the reference has read this token -/
def RTk (t : zTk) (h : zH) : Prop := h 403 8 = (if t.1 = 5 then 1 else 0) ∧ h 403 9 = (if t.1 = 5 then t.2.2.1 else -1) ∧
  (t.1 ≠ 5 → h 403 3 = rsg t ∧ h 403 4 = t.2.1 ∧ h 403 5 = t.2.2.2.1 ∧ (t.1 = 3 ∨ t.1 = 4 → h 403 6 = t.2.2.1) ∧ (t.1 = 1 ∨ t.1 = 2 → h 403 7 = (pk8 0 t.2.2.2.2 : Nat) ∧ h 403 6 = 0))
def frE (h h' : zH) : Prop := (∀ r, r ≠ 403 → h' r = h r) ∧ ∀ q, ¬ (3 ≤ q ∧ q ≤ 9) → h' 403 q = h 403 q
theorem frE.rf (h : zH) : frE h h := ⟨fun _ _ => rfl, fun _ _ => rfl⟩
theorem frE.t {a b c : zH} (h1 : frE a b) (h2 : frE b c) : frE a c := ⟨fun r x => (h2.1 r x).trans (h1.1 r x), fun q x => (h2.2 q x).trans (h1.2 q x)⟩
theorem q_R_ah5 {d : Nat} {T : Int → Int} {n e : Int} {h : zH} {Q : zV → zH → Prop} (h0 : 0 ≤ e) (hn : n ≤ 1600) (hT : ∀ j, 0 ≤ j → j < n → h 404 j = T j) (hN : h 403 2 = n) (N : zWp (l_R_ahead_41 d (rnE cB T n (n - e).toNat e) h) Q) : ∀ (f : Nat) {j : Int}, e ≤ j → n - j ≤ f → j ≤ n → rnE cB T n (n - j).toNat j = rnE cB T n (n - e).toNat e → zWp (l_R_ahead_5 d j h) Q := by
  intro f
  have stop : ∀ j, rnE cB T n (n - j).toNat j = rnE cB T n (n - e).toNat e → ¬ (j < n ∧ cB (T j) = true) → zWp (l_R_ahead_41 d j h) Q := by
    intro j he hs
    rw [rn_st hs] at he
    rw [← he] at N
    exact N
  induction f with
  | zero =>
    intro j hj hf hjn he
    have hf' : n - j ≤ 0 := hf
    rw [el_R_ahead_5, hN]
    exact zWp_nt (by omega) (stop j he (fun z => by omega))
  | succ f ih =>
    intro j hj hf hjn he
    rw [el_R_ahead_5, hN]
    by_cases c : j < n
    case neg => exact zWp_nt c (stop j he (fun z => c z.1))
    rw [hT j (by omega) c, w32_i (x := j + 1) (by omega)]
    refine zWp_it c (zWp_it (by omega) ?_)
    have nx : cB (T j) = true → zWp (l_R_ahead_5 d (j + 1) h) Q := fun z => ih (by omega) (by omega) (by omega) (by rw [← rn_go c z]; exact he)
    by_cases c1 : T j = 32
    · exact zWp_it c1 (nx (decide_eq_true (Or.inl c1)))
    refine zWp_nt c1 (zWp_it (by omega) ?_)
    by_cases c2 : T j = 10
    · exact zWp_it c2 (nx (decide_eq_true (Or.inr c2)))
    · exact zWp_nt c2 (stop j he (fun z => by have : T j = 32 ∨ T j = 10 := of_decide_eq_true z.2; omega))
theorem q_R_ah93 {d : Nat} {T : Int → Int} {n a x2 x3 : Int} {h : zH} {Q : zV → zH → Prop} (h0 : 0 ≤ a ∧ a < n) (hn : n ≤ 1600) (hT : ∀ j, 0 ≤ j → j < n → h 404 j = T j) (N : zWp (l_R_ahead_131 (d + 1) a x2 x3 (if adjT T a = true then blH 1 a h else h)) Q) : zWp (l_R_ahead_93 (d + 1) a x2 x3 h) Q := by
  rw [el_R_ahead_93]
  by_cases c : 0 < a
  case neg =>
    rw [if_neg (c := adjT T a = true) (fun z => by unfold adjT at z; rw [Bool.and_eq_true] at z; exact c (of_decide_eq_true z.1))] at N
    exact zWp_nt c N
  rw [w32_i (x := a - 1) (by omega), hT (a - 1) (by omega) (by omega)]
  have ea : adjT T a = (cL (T (a - 1)) || cD (T (a - 1))) := by unfold adjT; rw [decide_eq_true c]; rfl
  refine zWp_it c (zWp_it (by omega) (zWp_qi q_R_isL ?_))
  by_cases c1 : cL (T (a - 1)) = true
  · rw [if_pos (c := adjT T a = true) (by rw [ea, c1]; rfl)] at N
    rw [if_pos c1]
    exact zWp_nt (by decide) (zWp_qv q_R_blame N)
  · rw [if_neg c1]
    refine zWp_it rfl (zWp_it (by omega) ?_)
    rw [hT (a - 1) (by omega) (by omega)]
    refine zWp_qi q_R_isD ?_
    have f1 : cL (T (a - 1)) = false := by cases z : cL (T (a - 1)); rfl; exact absurd z c1
    by_cases c2 : cD (T (a - 1)) = true
    · rw [if_pos (c := adjT T a = true) (by rw [ea, c2, Bool.or_true])] at N
      rw [if_pos c2]
      exact zWp_nt (by decide) (zWp_qv q_R_blame N)
    · have f2 : cD (T (a - 1)) = false := by cases z : cD (T (a - 1)); rfl; exact absurd z c2
      rw [if_neg (c := adjT T a = true) (by rw [ea, f1, f2]; decide)] at N
      rw [if_neg c2]
      exact zWp_it rfl N
theorem q_R_ah131 {d : Nat} {T : Int → Int} {n a : Int} {h g : zH} (h0 : 0 ≤ a ∧ a < n) (hn : n ≤ 1600) (hT : ∀ j, 0 ≤ j → j < n → h 404 j = T j) (hN : h 403 2 = n) (h4 : h 403 4 = a) (h8 : h 403 8 = 0) (h9 : h 403 9 = -1) (hc : cL (T a) = true ∨ cD (T a) = true) (eg : g = if adjT T a = true then blH 1 a h else h) : zWp (l_R_ahead_131 (d + 1) a (if cL (T a) = true then 1 else 0) (if cD (T a) = true then 1 else 0) g) (fun _ h' => RTk (tkAt T n a) h' ∧ frE h h') := by
  have g1 : ∀ r, r ≠ 403 → g r = h r := fun r hr => by
    rw [eg]
    by_cases c : adjT T a = true
    · rw [if_pos c]; unfold blH; rw [if_neg (by omega), zset_n hr, zset_n hr]
    · rw [if_neg c]
  have g2 : ∀ q, ¬ (q = 8 ∨ q = 9) → g 403 q = h 403 q := fun q hq => by
    rw [eg]
    by_cases c : adjT T a = true
    · rw [if_pos c]; unfold blH; rw [if_neg (by omega), zset_j (by omega), zset_j (by omega)]
    · rw [if_neg c]
  have g8 : g 403 8 = (if adjT T a = true then 1 else 0) := by
    rw [eg]
    by_cases c : adjT T a = true
    · rw [if_pos c, if_pos c]; unfold blH; rw [if_neg (by omega), zset_j (by decide), zset_e]
    · rw [if_neg c, if_neg c, h8]
  have g9 : g 403 9 = (if adjT T a = true then a else -1) := by
    rw [eg]
    by_cases c : adjT T a = true
    · rw [if_pos c, if_pos c]; unfold blH; rw [if_neg (by omega), zset_e]
    · rw [if_neg c, if_neg c, h9]
  rw [el_R_ahead_131]
  refine zWp_lt fun h1 e1 => zWp_lt fun h2 e2 => zWp_lt fun h3 e3 => zWp_lt fun h4' e4 => ?_
  have r4 : ∀ r, r ≠ 403 → h4' r = h r := fun r hr => by rw [e4, zset_n hr, e3, zset_n hr, e2, zset_n hr, e1, zset_n hr, g1 r hr]
  have q4 : ∀ q, ¬ (q = 3 ∨ q = 5 ∨ q = 6 ∨ q = 7) → h4' 403 q = g 403 q := fun q hq => by rw [e4, zset_j (by omega), e3, zset_j (by omega), e2, zset_j (by omega), e1, zset_j (by omega)]
  have k6 : h4' 403 6 = 0 := by rw [e4, zset_j (by decide), e3, zset_j (by decide), e2, zset_j (by decide), e1, zset_e]
  have k7 : h4' 403 7 = 0 := by rw [e4, zset_j (by decide), e3, zset_j (by decide), e2, zset_e]
  by_cases c1 : cL (T a) = true
  · have c2 : ¬ cD (T a) = true := fun z => by
      have z1 : 48 ≤ T a ∧ T a ≤ 57 := of_decide_eq_true z
      have z2 : 97 ≤ T a ∧ T a ≤ 122 := of_decide_eq_true c1
      omega
    rw [if_pos c1, if_neg c2]
    refine zWp_nt (by decide) (zWp_nt (by decide) ?_)
    rw [el_R_ahead_182]
    refine zWp_lt fun h5 e5 => zWp_nt (by decide) ?_
    have st := q_R_ahW (d := d) (T := T) (n := n) (a := a) (φ := if adjT T a = true then 1 else 0) (ψ := if adjT T a = true then a else -1) (h0 := h5) h0.1 hn (fun j j1 j2 => by rw [e5, zset_n (by decide), r4 404 (by decide)]; exact hT j j1 j2) (by rw [e5, zset_j (by decide), q4 2 (by decide), g2 2 (by decide)]; exact hN) (n - a).toNat (j := a) (h := h5) (Int.le_refl _) (by omega) (by omega) (fun i i1 i2 => by omega) rfl ⟨fun _ => ⟨by rw [e5, zset_j (by decide), k7, Int.sub_self]; rfl, by rw [e5, zset_j (by decide), q4 8 (by decide)]; exact g8, by rw [e5, zset_j (by decide), q4 9 (by decide)]; exact g9⟩, fun z => absurd z (by omega), fun _ _ => rfl, fun _ _ => rfl⟩
    rw [Int.sub_self] at st
    refine zWp_m st (fun _ h' u => ?_)
    obtain ⟨hz, w, e'⟩ := u
    obtain ⟨w1, w2, w3, w4⟩ := w
    have eb := (rn_b (p := cL) (T := T) (n := n) (n - a).toNat a).1
    generalize hE : rnE cL T n (n - a).toNat a = E at *
    refine ⟨?_, fun r hr => by rw [e', zset_n hr, w3 r hr, e5, zset_n hr, r4 r hr], fun q hq => by rw [e', zset_j (by omega), w4 q (by omega), e5, zset_j (by omega), q4 q (by omega), g2 q (by omega)]⟩
    unfold tkAt
    rw [if_pos c1, hE]
    have k8 : h' 403 8 = hz 403 8 := by rw [e', zset_j (by decide)]
    have k9 : h' 403 9 = hz 403 9 := by rw [e', zset_j (by decide)]
    by_cases c3 : adjT T a = true
    · rw [if_pos c3, if_pos c3]
      rw [if_pos c3, if_pos c3] at w1 w2
      have : hz 403 8 = 1 ∧ hz 403 9 = a := by
        by_cases z : E - a ≤ 6
        · exact (w1 z).2
        · exact w2 (by omega)
      exact ⟨by rw [k8, this.1]; rfl, by rw [k9, this.2]; rfl, fun z => absurd rfl z⟩
    rw [if_neg c3, if_neg c3]
    rw [if_neg c3, if_neg c3] at w1 w2
    by_cases c4 : 6 < E - a
    · rw [if_pos c4, if_pos c4]
      have := w2 c4
      exact ⟨by rw [k8, this.1]; rfl, by rw [k9, this.2]; rfl, fun z => absurd rfl z⟩
    rw [if_neg c4, if_neg c4]
    have v := w1 (by omega)
    have s3 : h' 403 3 = 1 := by rw [e', zset_j (by decide), w4 3 (by decide), e5, zset_e]
    have s4 : h' 403 4 = a := by rw [e', zset_j (by decide), w4 4 (by decide), e5, zset_j (by decide), q4 4 (by decide), g2 4 (by decide), h4]
    have s5 : h' 403 5 = E := by rw [e', zset_e]
    have s6 : h' 403 6 = 0 := by rw [e', zset_j (by decide), w4 6 (by decide), e5, zset_j (by decide), k6]
    have s7 : h' 403 7 = (pk8 0 (ltS T (E - a).toNat a) : Nat) := by rw [e', zset_j (by decide)]; exact v.1
    by_cases c5 : ownI (pk5 0 (ltS T (E - a).toNat a)) = -1
    · rw [if_pos c5, if_pos c5]
      exact ⟨by rw [k8, v.2.1]; rfl, by rw [k9, v.2.2]; rfl, fun _ => ⟨s3, s4, s5, fun z => absurd z (show ¬ ((1 : Int) = 3 ∨ (1 : Int) = 4) by decide), fun _ => ⟨s7, s6⟩⟩⟩
    · rw [if_neg c5, if_neg c5]
      exact ⟨by rw [k8, v.2.1]; rfl, by rw [k9, v.2.2]; rfl, fun _ => ⟨s3, s4, s5, fun z => absurd z (show ¬ ((2 : Int) = 3 ∨ (2 : Int) = 4) by decide), fun _ => ⟨s7, s6⟩⟩⟩
  · have c2 : cD (T a) = true := by rcases hc with z | z; exact absurd z c1; exact z
    rw [if_neg c1, if_pos c2]
    refine zWp_it rfl (zWp_nt (by decide) (zWp_it rfl ?_))
    rw [el_R_ahead_182]
    refine zWp_lt fun h5 e5 => zWp_it rfl ?_
    have st := q_R_ahN (d := d) (T := T) (n := n) (a := a) (φ := if adjT T a = true then 1 else 0) (ψ := if adjT T a = true then a else -1) (h0 := h5) h0.1 hn (fun j j1 j2 => by rw [e5, zset_n (by decide), r4 404 (by decide)]; exact hT j j1 j2) (by rw [e5, zset_j (by decide), q4 2 (by decide), g2 2 (by decide)]; exact hN) (n - a).toNat (j := a) (h := h5) (Int.le_refl _) (by omega) (by omega) (fun i i1 i2 => by omega) rfl ⟨fun _ => ⟨by rw [e5, zset_j (by decide), k6, Int.sub_self]; rfl, by rw [e5, zset_j (by decide), q4 8 (by decide)]; exact g8, by rw [e5, zset_j (by decide), q4 9 (by decide)]; exact g9⟩, fun z => absurd z (by omega), fun _ _ => rfl, fun _ _ => rfl⟩
    rw [Int.sub_self] at st
    refine zWp_m st (fun _ h' u => ?_)
    obtain ⟨hz, w, e'⟩ := u
    obtain ⟨w1, w2, w3, w4⟩ := w
    have eb := (rn_b (p := cD) (T := T) (n := n) (n - a).toNat a).1
    generalize hE : rnE cD T n (n - a).toNat a = E at *
    refine ⟨?_, fun r hr => by rw [e', zset_n hr, w3 r hr, e5, zset_n hr, r4 r hr], fun q hq => by rw [e', zset_j (by omega), w4 q (by omega), e5, zset_j (by omega), q4 q (by omega), g2 q (by omega)]⟩
    unfold tkAt
    rw [if_neg c1, if_pos c2, hE]
    have k8 : h' 403 8 = hz 403 8 := by rw [e', zset_j (by decide)]
    have k9 : h' 403 9 = hz 403 9 := by rw [e', zset_j (by decide)]
    by_cases c3 : adjT T a = true
    · rw [if_pos c3, if_pos c3]
      rw [if_pos c3, if_pos c3] at w1 w2
      have : hz 403 8 = 1 ∧ hz 403 9 = a := by
        by_cases z : E - a ≤ 4
        · exact (w1 z).2
        · exact w2 (by omega)
      exact ⟨by rw [k8, this.1]; rfl, by rw [k9, this.2]; rfl, fun z => absurd rfl z⟩
    rw [if_neg c3, if_neg c3]
    rw [if_neg c3, if_neg c3] at w1 w2
    by_cases c4 : 4 < E - a
    · rw [if_pos c4, if_pos c4]
      have := w2 c4
      exact ⟨by rw [k8, this.1]; rfl, by rw [k9, this.2]; rfl, fun z => absurd rfl z⟩
    rw [if_neg c4, if_neg c4]
    have v := w1 (by omega)
    have s3 : h' 403 3 = 2 := by rw [e', zset_j (by decide), w4 3 (by decide), e5, zset_e]
    have s4 : h' 403 4 = a := by rw [e', zset_j (by decide), w4 4 (by decide), e5, zset_j (by decide), q4 4 (by decide), g2 4 (by decide), h4]
    have s5 : h' 403 5 = E := by rw [e', zset_e]
    have s6 : h' 403 6 = nvA T (E - a).toNat a 0 := by rw [e', zset_j (by decide)]; exact v.1
    exact ⟨by rw [k8, v.2.1]; rfl, by rw [k9, v.2.2]; rfl, fun _ => ⟨s3, s4, s5, fun _ => s6, fun z => absurd z (show ¬ ((3 : Int) = 1 ∨ (3 : Int) = 2) by decide)⟩⟩
theorem q_R_ahead {d : Nat} {T : Int → Int} {n e : Int} {h : zH} (hn : 0 ≤ n ∧ n ≤ 1600) (hT : ∀ j, 0 ≤ j → j < n → h 404 j = T j) (hN : h 403 2 = n) (h5 : h 403 5 = e) (he : 0 ≤ e ∧ e ≤ n) (h8 : h 403 8 = 0) (h9 : h 403 9 = -1) : zWp (m_R_ahead (d + 2) h) (fun _ h' => RTk (nxT T n e) h' ∧ frE h h') := by
  rw [em_R_ahead, h5]
  refine q_R_ah5 (T := T) (n := n) (e := e) he.1 hn.2 hT hN ?_ (n - e).toNat (Int.le_refl _) (by omega) he.2 rfl
  have rb := rn_b (p := cB) (T := T) (n := n) (n - e).toNat e
  have rb2 := rb.2.2 he.2
  unfold nxT
  generalize rnE cB T n (n - e).toNat e = a at *
  rw [el_R_ahead_41]
  refine zWp_lt fun h1 e1 => zWp_lt fun h2 e2 => zWp_lt fun h3 e3 => ?_
  have r3 : ∀ r, r ≠ 403 → h3 r = h r := fun r hr => by rw [e3, zset_n hr, e2, zset_n hr, e1, zset_n hr]
  have q3 : ∀ q, ¬ (q = 3 ∨ q = 4 ∨ q = 5) → h3 403 q = h 403 q := fun q hq => by rw [e3, zset_j (by omega), e2, zset_j (by omega), e1, zset_j (by omega)]
  have k4 : h3 403 4 = a := by rw [e3, zset_j (by decide), e2, zset_j (by decide), e1, zset_e]
  have k5 : h3 403 5 = a := by rw [e3, zset_j (by decide), e2, zset_e]
  have k3 : h3 403 3 = 0 := by rw [e3, zset_e]
  have f3 : frE h h3 := ⟨r3, fun q hq => q3 q (by omega)⟩
  rw [q3 2 (by decide), hN]
  by_cases c : a < n
  case neg =>
    rw [if_neg (c := a < n) (t := tkAt T n a) c]
    have ea : a = n := by omega
    refine zWp_nt c (zWp_s ⟨⟨by rw [q3 8 (by decide), h8]; rfl, by rw [q3 9 (by decide), h9]; rfl, fun _ => ⟨by rw [k3]; rfl, by rw [k4, ea], by rw [k5, ea], fun z => absurd z (show ¬ ((0 : Int) = 3 ∨ (0 : Int) = 4) by decide), fun z => absurd z (show ¬ ((0 : Int) = 1 ∨ (0 : Int) = 2) by decide)⟩⟩, f3⟩)
  rw [if_pos (c := a < n) (t := tkAt T n a) c]
  have hT3 : ∀ j, 0 ≤ j → j < n → h3 404 j = T j := fun j j1 j2 => by rw [r3 404 (by decide)]; exact hT j j1 j2
  rw [hT3 a (by omega) c]
  refine zWp_it c (zWp_it (by omega) (zWp_qi q_R_isL (zWp_it (by omega) ?_)))
  rw [hT3 a (by omega) c]
  refine zWp_qi q_R_isD ?_
  have wd : cL (T a) = true ∨ cD (T a) = true → zWp (l_R_ahead_93 (d + 1) a (if cL (T a) = true then 1 else 0) (if cD (T a) = true then 1 else 0) h3) (fun _ h' => RTk (tkAt T n a) h' ∧ frE h h') := fun hc => q_R_ah93 (T := T) (n := n) ⟨by omega, c⟩ hn.2 hT3 (zWp_m (q_R_ah131 (h := h3) ⟨by omega, c⟩ hn.2 hT3 (by rw [q3 2 (by decide), hN]) k4 (by rw [q3 8 (by decide), h8]) (by rw [q3 9 (by decide), h9]) hc rfl) (fun _ h' u => ⟨u.1, f3.t u.2⟩))
  by_cases c1 : cL (T a) = true
  · have := wd (Or.inl c1)
    rw [if_pos c1] at this ⊢
    exact zWp_nt (by decide) this
  by_cases c2 : cD (T a) = true
  · have := wd (Or.inr c2)
    rw [if_neg c1, if_pos c2] at this ⊢
    exact zWp_it rfl (zWp_nt (by decide) this)
  rw [if_neg c1, if_neg c2]
  refine zWp_it rfl (zWp_it rfl ?_)
  rw [el_R_ahead_131]
  refine zWp_lt fun h4 e4 => zWp_lt fun h5 e5 => zWp_lt fun h6 e6 => zWp_lt fun h7 e7 => zWp_it rfl (zWp_it rfl (zWp_it (by omega) (zWp_lt fun h8' e8 => zWp_s ?_)))
  have r8 : ∀ r, r ≠ 403 → h8' r = h r := fun r hr => by rw [e8, zset_n hr, e7, zset_n hr, e6, zset_n hr, e5, zset_n hr, e4, zset_n hr, r3 r hr]
  have q8 : ∀ q, ¬ (q = 3 ∨ q = 5 ∨ q = 6 ∨ q = 7) → h8' 403 q = h3 403 q := fun q hq => by rw [e8, zset_j (by omega), e7, zset_j (by omega), e6, zset_j (by omega), e5, zset_j (by omega), e4, zset_j (by omega)]
  have et : tkAt T n a = (4, a, T a, a + 1, []) := by unfold tkAt; rw [if_neg c1, if_neg c2]
  rw [et]
  refine ⟨⟨by rw [q8 8 (by decide), q3 8 (by decide), h8]; rfl, by rw [q8 9 (by decide), q3 9 (by decide), h9]; rfl, fun _ => ⟨?_, by rw [q8 4 (by decide), k4], ?_, fun _ => ?_, fun z => absurd z (show ¬ ((4 : Int) = 1 ∨ (4 : Int) = 2) by decide)⟩⟩, r8, fun q hq => by rw [q8 q (by omega), q3 q (by omega)]⟩
  · rw [e8, zset_j (by decide), e7, zset_j (by decide), e6, zset_e]; rfl
  · rw [e8, zset_j (by decide), e7, zset_e, w32_i (by omega)]
  · rw [e8, zset_e, e7, zset_n (by decide), e6, zset_n (by decide), e5, zset_n (by decide), e4, zset_n (by decide)]; exact hT3 a (by omega) c
