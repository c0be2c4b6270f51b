/-! the class's tokens at the start; tokens are in order -/
theorem lex_in {T : Int → Int} {n : Int} : ∀ (f : Nat) (a : Int) (t : zTk), t ∈ lexF T n f a → ∃ b, a ≤ b ∧ b < n ∧ cB (T b) ≠ true ∧ t = tkAt T n b
  | 0, _, t, h => by cases h
  | f + 1, a, t, h => by
    rw [lexF] at h
    by_cases c : a < n
    case neg => rw [if_neg c] at h; cases h
    rw [if_pos c] at h
    by_cases c2 : cB (T a) = true
    · rw [if_pos c2] at h
      obtain ⟨b, b1, b2⟩ := lex_in f (a + 1) t h
      exact ⟨b, by omega, b2⟩
    · rw [if_neg c2] at h
      rcases List.mem_cons.1 h with z | z
      · exact ⟨a, Int.le_refl _, c, c2, z⟩
      · obtain ⟨b, b1, b2⟩ := lex_in f _ t z
        have := tk_end (T := T) c
        exact ⟨b, by omega, b2⟩
theorem nvA_b {T : Int → Int} : ∀ (k : Nat) (a x : Int), 0 ≤ x → (∀ j, a ≤ j → j < a + k → cD (T j) = true) → 0 ≤ nvA T k a x ∧ nvA T k a x < (x + 1) * 10 ^ k
  | 0, a, x, h0, _ => ⟨h0, by show x < (x + 1) * 1; omega⟩
  | k + 1, a, x, h0, hT => by
    have : 48 ≤ T a ∧ T a ≤ 57 := of_decide_eq_true (hT a (Int.le_refl _) (by omega))
    have ih := nvA_b k (a + 1) (10 * x + T a - 48) (by omega) (fun j j1 j2 => hT j (by omega) (by omega))
    refine ⟨ih.1, Int.lt_of_lt_of_le ih.2 ?_⟩
    rw [Int.pow_succ, Int.mul_comm (10 ^ k) 10, ← Int.mul_assoc]
    exact Int.mul_le_mul_of_nonneg_right (by omega) (Int.pow_nonneg (by decide))
theorem ownI_b {p : Int} (h : ownI p ≠ -1) : 0 ≤ ownI p ∧ ownI p < 26 := by
  rcases zfs_spec (fun i => decide (ownW.getD i.toNat 0 = p)) 26 0 with z | z
  · exact absurd z.1 h
  · exact ⟨z.1, z.2.1⟩
theorem tkAt_ok {T : Int → Int} {n a : Int} (h0 : 0 ≤ a ∧ a < n) : (tkAt T n a).1 ≠ 0 ∧ (tkAt T n a).2.1 = a ∧ ((tkAt T n a).1 = 3 → 0 ≤ (tkAt T n a).2.2.1 ∧ (tkAt T n a).2.2.1 ≤ 9999) ∧ ((tkAt T n a).1 = 2 → 0 ≤ (tkAt T n a).2.2.1 ∧ (tkAt T n a).2.2.1 < 26) := by
  unfold tkAt
  by_cases c1 : cL (T a) = true
  · rw [if_pos c1]
    by_cases c2 : adjT T a = true
    · rw [if_pos c2, if_pos c2]
      exact ⟨show (5 : Int) ≠ 0 by decide, rfl, fun z => absurd z (show ¬ (5 : Int) = 3 by decide), fun z => absurd z (show ¬ (5 : Int) = 2 by decide)⟩
    rw [if_neg c2, if_neg c2]
    by_cases c3 : 6 < rnE cL T n (n - a).toNat a - a
    · rw [if_pos c3, if_pos c3]
      exact ⟨show (5 : Int) ≠ 0 by decide, rfl, fun z => absurd z (show ¬ (5 : Int) = 3 by decide), fun z => absurd z (show ¬ (5 : Int) = 2 by decide)⟩
    rw [if_neg c3, if_neg c3]
    by_cases c4 : ownI (pk5 0 (ltS T (rnE cL T n (n - a).toNat a - a).toNat a)) = -1
    · rw [if_pos c4, if_pos c4]
      exact ⟨show (1 : Int) ≠ 0 by decide, rfl, fun z => absurd z (show ¬ (1 : Int) = 3 by decide), fun z => absurd z (show ¬ (1 : Int) = 2 by decide)⟩
    · rw [if_neg c4, if_neg c4]
      exact ⟨show (2 : Int) ≠ 0 by decide, rfl, fun z => absurd z (show ¬ (2 : Int) = 3 by decide), fun _ => ownI_b c4⟩
  rw [if_neg c1]
  by_cases c5 : cD (T a) = true
  · rw [if_pos c5]
    by_cases c2 : adjT T a = true
    · rw [if_pos c2, if_pos c2]
      exact ⟨show (5 : Int) ≠ 0 by decide, rfl, fun z => absurd z (show ¬ (5 : Int) = 3 by decide), fun z => absurd z (show ¬ (5 : Int) = 2 by decide)⟩
    rw [if_neg c2, if_neg c2]
    by_cases c3 : 4 < rnE cD T n (n - a).toNat a - a
    · rw [if_pos c3, if_pos c3]
      exact ⟨show (5 : Int) ≠ 0 by decide, rfl, fun z => absurd z (show ¬ (5 : Int) = 3 by decide), fun z => absurd z (show ¬ (5 : Int) = 2 by decide)⟩
    rw [if_neg c3, if_neg c3]
    refine ⟨show (3 : Int) ≠ 0 by decide, rfl, fun _ => ?_, fun z => absurd z (show ¬ (3 : Int) = 2 by decide)⟩
    have rb := rn_b (p := cD) (T := T) (n := n) (n - a).toNat a
    have b := nvA_b (T := T) (rnE cD T n (n - a).toNat a - a).toNat a 0 (Int.le_refl _) (fun j j1 j2 => rn_in (p := cD) (T := T) (n := n) (n - a).toNat a j j1 (by omega))
    have p : (10 : Int) ^ (rnE cD T n (n - a).toNat a - a).toNat ≤ 10000 := by
      have : (rnE cD T n (n - a).toNat a - a).toNat ≤ 4 := by omega
      have q : ∀ k : Nat, k ≤ 4 → (10 : Int) ^ k ≤ 10000 := by decide
      exact q _ this
    show 0 ≤ nvA T _ a 0 ∧ nvA T _ a 0 ≤ 9999
    omega
  · rw [if_neg c5]
    exact ⟨by show (4 : Int) ≠ 0; decide, rfl, fun z => absurd z (show ¬ (4 : Int) = 3 by decide), fun z => absurd z (show ¬ (4 : Int) = 2 by decide)⟩
theorem tkI_l {A : List zTk} {t : zTk} {i : Nat} (h : i < A.length) : tkI (A ++ [t]) i = tkI A i := by
  unfold tkI
  rw [List.getD_eq_getElem?_getD, List.getD_eq_getElem?_getD, List.getElem?_append_left h]
theorem tkI_r {A : List zTk} {t : zTk} : tkI (A ++ [t]) A.length = t := by
  unfold tkI
  rw [List.getD_eq_getElem?_getD, List.getElem?_append_right (Nat.le_refl _), Nat.sub_self]
  rfl
theorem tkI_m {A : List zTk} {i : Nat} (h : i < A.length) : tkI A i ∈ A := by
  unfold tkI
  rw [List.getD_eq_getElem?_getD, List.getElem?_eq_getElem h]
  exact List.getElem_mem h
theorem toks_ok {T : Int → Int} {n : Int} (hn : 0 ≤ n ∧ n ≤ 1600) : AOk (toks T n) := by
  have hl := lex_len1 (T := T) (n := n) n.toNat 0
  have el : (toks T n).length = (lexF T n n.toNat 0).length + 1 := by unfold toks; rw [List.length_append]; rfl
  have cs : ∀ i, i < (toks T n).length → (i = (lexF T n n.toNat 0).length ∧ tkI (toks T n) i = (0, n, 0, n, [])) ∨ (i < (lexF T n n.toNat 0).length ∧ ∃ b, 0 ≤ b ∧ b < n ∧ tkI (toks T n) i = tkAt T n b) := by
    intro i hi
    by_cases c : i < (lexF T n n.toNat 0).length
    · obtain ⟨b, b1, b2, b3, b4⟩ := lex_in (T := T) (n := n) n.toNat 0 _ (tkI_m c)
      exact Or.inr ⟨c, b, b1, b2, by unfold toks; rw [tkI_l c]; exact b4⟩
    · have e : i = (lexF T n n.toNat 0).length := by omega
      exact Or.inl ⟨e, by unfold toks; rw [e]; exact tkI_r⟩
  refine ⟨by rw [el]; omega, fun i hi hk => ?_, fun i hi => ?_⟩
  · rcases cs i hi with z | z
    · rw [z.2] at hk; exact absurd rfl hk
    · omega
  · rcases cs i hi with z | ⟨z, b, b1, b2, e⟩
    · rw [z.2]
      exact ⟨⟨hn.1, hn.2⟩, fun y => absurd y (show ¬ (0 : Int) = 3 by decide), fun y => absurd y (show ¬ (0 : Int) = 2 by decide)⟩
    · have k := tkAt_ok (T := T) ⟨b1, b2⟩
      rw [e]
      exact ⟨by rw [k.2.1]; omega, k.2.2⟩
theorem q_adv0 {d : Nat} {A : List zTk} {h : zH} (ok : AOk A) (tk : TkR A h) (c1 : h 5 11 = 0) (c2 : h 5 12 = -1) (v1 : h 5 5 = -1) (hlt : 0 < A.length) : zWp (m_Tokens_advance (d + 1) 5 h) (fun _ h' => TC A (0, 0, -1) h' ∧ frA h h') := by
  rw [em_Tokens_advance]
  refine zWp_po (by decide) (zWp_po (by decide) (zWp_lt fun h1 e1 => zWp_po (by decide) ?_))
  have s1 : ∀ q, q ≠ 10 → h1 5 q = h 5 q := fun q hq => by rw [e1, zset_j hq]
  have r1 : ∀ r, r ≠ 5 → h1 r = h r := fun r hr => by rw [e1, zset_n hr]
  rw [s1 11 (by decide), c1]
  have hA := ok.1
  have g := tk.g hlt
  rw [show ((0 : Nat) : Int) = 0 from rfl] at g
  rw [s1 5 (by decide), v1, s1 4 (by decide), tk.1, show w32 (-1 + 1) = 0 by decide]
  refine zWp_it rfl (zWp_po (by decide) (zWp_po (by decide) (zWp_it (by omega) (zWp_po (by decide) (zWp_po (by decide) (zWp_lt fun h2 e2 => ?_))))))
  have s2 : h2 5 5 = 0 := by rw [e2, zset_e]
  have t2 : ∀ q, q ≠ 5 → h2 5 q = h1 5 q := fun q hq => by rw [e2, zset_j hq]
  have r2 : ∀ r, r ≠ 5 → h2 r = h r := fun r hr => by rw [e2, zset_n hr, r1 r hr]
  rw [s2, show (5 + 2 : Int) = 7 from rfl, show (5 + 3 : Int) = 8 from rfl, show (5 + 4 : Int) = 9 from rfl, r2 7 (by decide), g.1]
  refine zWp_po (by decide) (zWp_po (by decide) (zWp_po (by decide) (zWp_it (by omega) (zWp_po (by decide) (zWp_lt fun h3 e3 => ?_)))))
  have s3 : h3 5 5 = 0 := by rw [e3, zset_j (by decide)]; exact s2
  have r3 : ∀ r, r ≠ 5 → h3 r = h r := fun r hr => by rw [e3, zset_n hr, r2 r hr]
  rw [s3, r3 8 (by decide), g.2.1]
  refine zWp_po (by decide) (zWp_po (by decide) (zWp_po (by decide) (zWp_it (by omega) (zWp_po (by decide) (zWp_lt fun h4 e4 => ?_)))))
  have s4 : h4 5 5 = 0 := by rw [e4, zset_j (by decide)]; exact s3
  have r4 : ∀ r, r ≠ 5 → h4 r = h r := fun r hr => by rw [e4, zset_n hr, r3 r hr]
  rw [s4, r4 9 (by decide), g.2.2]
  refine zWp_po (by decide) (zWp_po (by decide) (zWp_po (by decide) (zWp_it (by omega) (zWp_po (by decide) (zWp_lt fun h5 e5 => ?_)))))
  have r5 : ∀ r, r ≠ 5 → h5 r = h r := fun r hr => by rw [e5, zset_n hr, r4 r hr]
  have k6 : h5 5 6 = (tkI A 0).1 := by rw [e5, zset_j (by decide), e4, zset_j (by decide), e3, zset_e]
  have k7 : h5 5 7 = (tkI A 0).2.1 := by rw [e5, zset_j (by decide), e4, zset_e]
  have k8 : h5 5 8 = (tkI A 0).2.2.1 := by rw [e5, zset_e]
  have k5 : h5 5 5 = 0 := by rw [e5, zset_j (by decide)]; exact s4
  have kq : ∀ q, ¬ (5 ≤ q ∧ q ≤ 8 ∨ q = 10) → h5 5 q = h 5 q := fun q hq => by rw [e5, zset_j (by omega), e4, zset_j (by omega), e3, zset_j (by omega), t2 q (by omega), s1 q (by omega)]
  have fin : ∀ h6 x, h6 = zset h5 5 9 x → x = unf (tkI A 0) → TC A (0, 0, -1) h6 ∧ frA h h6 := by
    intro h6 x e6 ex
    have q6 : ∀ q, q ≠ 9 → h6 5 q = h5 5 q := fun q hq => by rw [e6, zset_j hq]
    have r6 : ∀ r, r ≠ 5 → h6 r = h r := fun r hr => by rw [e6, zset_n hr, r5 r hr]
    refine ⟨⟨tk.fr (by rw [q6 4 (by decide), kq 4 (by decide)]) (fun r hr => r6 r (by omega)), ⟨by rw [q6 11 (by decide), kq 11 (by decide)]; exact c1, by rw [q6 12 (by decide), kq 12 (by decide)]; exact c2, ?_, hlt⟩, fun _ => ⟨by rw [q6 5 (by decide), k5]; rfl, by rw [q6 7 (by decide), k7], by rw [q6 8 (by decide), k8], by rw [e6, zset_e, ex], fun z => absurd z (Nat.lt_irrefl 0)⟩⟩, r6, fun q hq => by rw [q6 q (by omega), kq q (by omega)]⟩
    rw [q6 6 (by decide), k6]
    rfl
  refine zWp_po (by decide) ?_
  rw [k6, k7, k8]
  by_cases c6 : (tkI A 0).1 = 5
  · exact zWp_it c6 (zWp_po (by decide) (zWp_po (by decide) (zWp_lt fun h6 e6 => zWp_s (fin h6 _ e6 (by unfold unf; rw [if_pos c6])))))
  · exact zWp_nt c6 (zWp_po (by decide) (zWp_po (by decide) (zWp_lt fun h6 e6 => zWp_s (fin h6 _ e6 (by unfold unf; rw [if_neg c6])))))
theorem q_tbegin {d : Nat} {T : Int → Int} {n : Int} {h : zH} (hn : 0 ≤ n ∧ n ≤ 1600) (hT : ∀ j, 0 ≤ j → j < n → h 1 j = T j) (ow : ∀ i : Nat, i < 26 → h 6 (i : Int) = ownW.getD i 0) : zWp (m_Tokens_begin (d + 4) 1600 5 1 n h) (fun _ h' => TC (toks T n) (0, 0, -1) h' ∧ (∀ r, ¬ (r = 5 ∨ r = 7 ∨ r = 8 ∨ r = 9) → h' r = h r) ∧ ∀ q, q < 4 ∨ 12 < q → h' 5 q = h 5 q) := by
  have hl := lex_len1 (T := T) (n := n) n.toNat 0
  rw [em_Tokens_begin]
  refine zWp_po (by decide) (zWp_lt fun h1 e1 => zWp_po (by decide) (zWp_lt fun h2 e2 => zWp_po (by decide) (zWp_lt fun h3 e3 => ?_)))
  have r3 : ∀ r, r ≠ 5 → h3 r = h r := fun r hr => by rw [e3, zset_n hr, e2, zset_n hr, e1, zset_n hr]
  have q3 : ∀ q, ¬ (q = 4 ∨ q = 11 ∨ q = 12) → h3 5 q = h 5 q := fun q hq => by rw [e3, zset_j (by omega), e2, zset_j (by omega), e1, zset_j (by omega)]
  have k11 : h3 5 11 = 0 := by rw [e3, zset_j (by decide), e2, zset_j (by decide), e1, zset_e]
  have k12 : h3 5 12 = -1 := by rw [e3, zset_j (by decide), e2, zset_e]
  refine q_tb23 (d := d) (T := T) hn.2 n.toNat (a := 0) (A := []) (Int.le_refl _) hn.1 (by omega) (Int.le_refl _) (Int.le_refl _) (Int.le_refl _) (by rw [if_neg]; intro z; unfold adjT at z; cases z) (fun j a1 a2 => by rw [r3 1 (by decide)]; exact hT j a1 a2) (fun i hi => by rw [r3 6 (by decide)]; exact ow i hi) ⟨by rw [e3, zset_e]; rfl, fun j t hj => by cases hj⟩ (fun h4 t4 f4 => ?_)
  rw [List.nil_append] at t4
  rw [el_Tokens_begin_142]
  refine zWp_po (by decide) (zWp_bv (q_put (d := d + 2) (e := n) (Ls := []) t4 (by omega)) (fun _ h5 u => zWp_po (by decide) (zWp_lt fun h6 e6 => zWp_po (by decide) ?_)))
  have tk : TkR (toks T n) h6 := u.1.fr (by rw [e6, zset_j (by decide)]) (fun r hr => by rw [e6, zset_n (by omega)])
  have f5 := f4.t u.2
  refine zWp_bv (q_adv0 (d := d + 2) (toks_ok hn) tk (by rw [e6, zset_j (by decide), f5.2 11 (by decide)]; exact k11) (by rw [e6, zset_j (by decide), f5.2 12 (by decide)]; exact k12) (by rw [e6, zset_e]) (by unfold toks; rw [List.length_append]; exact Nat.succ_pos _)) (fun _ h7 y => zWp_s ⟨y.1, fun r hr => ?_, fun q hq => ?_⟩)
  · rw [y.2.1 r (by omega), e6, zset_n (by omega), f5.1 r hr, r3 r (by omega)]
  · rw [y.2.2 q (by omega), e6, zset_j (by omega), f5.2 q (by omega), q3 q (by omega)]
