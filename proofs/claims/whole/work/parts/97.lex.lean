/-! the class makes tokens of the text -/
theorem ltS_app {T : Int → Int} : ∀ (k : Nat) (a : Int), ltS T (k + 1) a = ltS T k a ++ [(T (a + k) - 96).toNat]
  | 0, a => by show [(T a - 96).toNat] = [(T (a + ((0 : Nat) : Int)) - 96).toNat]; rw [show a + ((0 : Nat) : Int) = a by omega]
  | k + 1, a => by
    show (T a - 96).toNat :: ltS T (k + 1) (a + 1) = (T a - 96).toNat :: ltS T k (a + 1) ++ [_]
    rw [ltS_app k (a + 1), List.cons_append, show a + 1 + (k : Int) = a + ((k + 1 : Nat) : Int) by omega]
theorem ltS_len {T : Int → Int} : ∀ (k : Nat) (a : Int), (ltS T k a).length = k
  | 0, _ => rfl
  | k + 1, a => by rw [ltS, List.length_cons, ltS_len k]
theorem nvA_app {T : Int → Int} : ∀ (k : Nat) (a x : Int), nvA T (k + 1) a x = 10 * nvA T k a x + T (a + k) - 48
  | 0, a, x => by show 10 * x + T a - 48 = 10 * x + T (a + ((0 : Nat) : Int)) - 48; rw [show a + ((0 : Nat) : Int) = a by omega]
  | k + 1, a, x => by
    show nvA T (k + 1) (a + 1) _ = 10 * nvA T k (a + 1) _ + _ - 48
    rw [nvA_app k (a + 1), show a + 1 + (k : Int) = a + ((k + 1 : Nat) : Int) by omega]
theorem pk5_app {x : Nat} : ∀ (L : List Nat) (k : Nat), pk5 k (L ++ [x]) = pk5 k L + x * 32 ^ (5 - (k + L.length))
  | [], k => by
    show x * 32 ^ (5 - k) + 0 = 0 + x * 32 ^ (5 - (k + 0))
    rw [Nat.add_zero, Nat.zero_add, Nat.add_zero]
  | y :: L, k => by
    rw [List.cons_append, pk5, pk5, pk5_app L (k + 1), List.length_cons, show k + 1 + L.length = k + (L.length + 1) by omega]
    omega
theorem pk5_dvd : ∀ (L : List Nat) (k : Nat), k + L.length ≤ 6 → 32 ^ (6 - (k + L.length)) ∣ pk5 k L
  | [], _, _ => ⟨0, rfl⟩
  | y :: L, k, h => by
    rw [List.length_cons] at h ⊢
    have ih := pk5_dvd L (k + 1) (by omega)
    rw [show k + 1 + L.length = k + (L.length + 1) by omega] at ih
    rw [pk5]
    refine Nat.dvd_add (Nat.dvd_trans (Nat.pow_dvd_pow 32 (show 6 - (k + (L.length + 1)) ≤ 5 - k by omega)) ⟨y, by rw [Nat.mul_comm]⟩) ih
theorem pk5_lt : ∀ (L : List Nat) (k : Nat), (∀ x ∈ L, x ≤ 31) → k + L.length ≤ 6 → pk5 k L < 32 ^ (6 - k)
  | [], k, _, _ => Nat.pow_pos (by decide)
  | y :: L, k, h, hk => by
    rw [List.length_cons] at hk
    have ih := pk5_lt L (k + 1) (fun x hx => h x (List.mem_cons_of_mem _ hx)) (by omega)
    have hy := h y (List.mem_cons_self ..)
    rw [pk5, show 6 - k = (5 - k) + 1 by omega, Nat.pow_succ]
    rw [show 6 - (k + 1) = 5 - k by omega] at ih
    have : y * 32 ^ (5 - k) ≤ 31 * 32 ^ (5 - k) := Nat.mul_le_mul_right _ hy
    omega
theorem sh5 : ∀ k : Nat, k < 6 → ∀ x : Nat, x < 32 → zshl (x : Int) (w32 (5 * w32 (5 - (k : Int)))) = ((x * 32 ^ (5 - k) : Nat) : Int) := by decide +kernel
theorem q_withL {d : Nat} {L : List Nat} {c : Int} {h : zH} (hl : L.length < 6) (hL : ∀ x ∈ L, x ≤ 31) (hc : cL c = true) : m_Tokens_withLetter (d + 1) (pk5 0 L : Int) (L.length : Int) c h = some (.inl (pk5 0 (L ++ [(c - 96).toNat]) : Int), h) := by
  have hc' : 97 ≤ c ∧ c ≤ 122 := of_decide_eq_true hc
  have b := pk5_lt L 0 hL (by omega)
  have b6 : (32 : Nat) ^ (6 - 0) = 1073741824 := by decide
  rw [b6] at b
  have e1 : w32 (w32 (c - 97) + 1) = (((c - 96).toNat : Nat) : Int) := by
    rw [w32_i (x := c - 97) (by omega), w32_i (by omega)]; omega
  obtain ⟨q, hq⟩ := pk5_dvd L 0 (by omega)
  rw [Nat.zero_add] at hq
  have p0 : (c - 96).toNat * 32 ^ (5 - L.length) < 32 ^ (6 - L.length) := by
    rw [show 6 - L.length = (5 - L.length) + 1 by omega, Nat.pow_succ, Nat.mul_comm]
    exact Nat.mul_lt_mul_of_pos_left (by omega) (Nat.pow_pos (by decide))
  have p1 : (32 : Nat) ^ (6 - L.length) ≤ 32 ^ 6 := Nat.pow_le_pow_right (by decide) (by omega)
  have p2 : (32 : Nat) ^ 6 = 1073741824 := by decide
  have pe : (32 : Nat) ^ (6 - L.length) = 2 ^ (5 * (6 - L.length)) := by rw [Nat.pow_mul]
  rw [em_Tokens_withLetter, e1, sh5 L.length hl _ (by omega), zor_n (by omega) (by omega), pk5_app L 0, Nat.zero_add]
  congr 3
  rw [hq, pe]
  rw [pe] at p0
  exact congrArg Int.ofNat (Nat.two_pow_add_eq_or_of_lt p0 q).symm
theorem ltS_31 {T : Int → Int} : ∀ (k : Nat) (a : Int), (∀ j, a ≤ j → j < a + k → cL (T j) = true) → ∀ x ∈ ltS T k a, 1 ≤ x ∧ x ≤ 26
  | 0, _, _, x, h => by cases h
  | k + 1, a, hT, x, h => by
    rcases List.mem_cons.1 h with z | z
    · have : 97 ≤ T a ∧ T a ≤ 122 := of_decide_eq_true (hT a (Int.le_refl _) (by omega))
      rw [z]; omega
    · exact ltS_31 k (a + 1) (fun j a1 a2 => hT j (by omega) (by omega)) x z
theorem q_rw6 {d : Nat} {T : Int → Int} {n a : Int} {h : zH} {Q : zV → zH → Prop} (h0 : 0 ≤ a) (hn : n ≤ 1600) (hT : ∀ j, 0 ≤ j → j < n → h 1 j = T j) (N : zWp (l_Tokens_readWord_59 (d + 1) 5 a (pk5 0 (ltS T (if rnE cL T n (n - a).toNat a - a < 6 then (rnE cL T n (n - a).toNat a - a).toNat else 6) a) : Int) (rnE cL T n (n - a).toNat a) h) Q) : ∀ (f : Nat) {j : Int}, a ≤ j → n - j ≤ f → j ≤ n → (∀ i, a ≤ i → i < j → cL (T i) = true) → rnE cL T n (n - j).toNat j = rnE cL T n (n - a).toNat a → zWp (l_Tokens_readWord_6 (d + 1) 1600 5 1 a n (pk5 0 (ltS T (if j - a < 6 then (j - a).toNat else 6) a) : Int) j h) Q := by
  intro f
  have stop : ∀ j, rnE cL T n (n - j).toNat j = rnE cL T n (n - a).toNat a → ¬ (j < n ∧ cL (T j) = true) → zWp (l_Tokens_readWord_59 (d + 1) 5 a (pk5 0 (ltS T (if j - a < 6 then (j - a).toNat else 6) a) : Int) j h) Q := by
    intro j he hs
    rw [rn_st hs] at he
    rw [← he] at N
    exact N
  induction f with
  | zero =>
    intro j ha hf hjn hl he
    rw [el_Tokens_readWord_6]
    exact zWp_nt (by omega) (stop j he (fun z => by omega))
  | succ f ih =>
    intro j ha hf hjn hl he
    rw [el_Tokens_readWord_6]
    by_cases c0 : j < n
    case neg => exact zWp_nt c0 (stop j he (fun z => c0 z.1))
    rw [hT j (by omega) c0]
    refine zWp_it c0 (zWp_po (by decide) (zWp_it (by omega) (zWp_po (by decide) (zWp_it (by omega) (zWp_qi q_isL ?_)))))
    by_cases c1 : cL (T j) = true
    case neg =>
      rw [if_neg c1]
      exact zWp_it rfl (stop j he (fun z => c1 z.2))
    rw [if_pos c1]
    refine zWp_nt (by decide) ?_
    rw [w32_i (x := j - a) (by omega), w32_i (x := j + 1) (by omega), hT j (by omega) c0]
    have hl' : ∀ i, a ≤ i → i < j + 1 → cL (T i) = true := fun i i1 i2 => by
      by_cases z : i = j
      · rw [z]; exact c1
      · exact hl i i1 (by omega)
    have he' : rnE cL T n (n - (j + 1)).toNat (j + 1) = rnE cL T n (n - a).toNat a := by rw [← rn_go c0 c1]; exact he
    have nx := ih (j := j + 1) (by omega) (by omega) (by omega) hl' he'
    by_cases c2 : j - a < 6
    · refine zWp_it c2 (zWp_po (by decide) (zWp_it (by omega) ?_))
      rw [if_pos c2]
      have e := q_withL (d := d) (L := ltS T (j - a).toNat a) (c := T j) (h := h) (by rw [ltS_len]; omega) (fun x hx => by have := (ltS_31 (j - a).toNat a (fun i i1 i2 => hl i i1 (by omega)) x hx).2; omega) c1
      rw [ltS_len, show (((j - a).toNat : Nat) : Int) = j - a by omega] at e
      refine zWp_qi e ?_
      have ex : ltS T (j - a).toNat a ++ [(T j - 96).toNat] = ltS T (if j + 1 - a < 6 then (j + 1 - a).toNat else 6) a := by
        have := ltS_app (T := T) (j - a).toNat a
        rw [show a + (((j - a).toNat : Nat) : Int) = j by omega] at this
        rw [← this]
        congr 1
        split <;> omega
      rw [ex]
      exact nx
    · refine zWp_nt c2 ?_
      rw [if_neg c2]
      rw [if_neg (show ¬ j + 1 - a < 6 by omega)] at nx
      exact nx
theorem q_rn6 {d : Nat} {T : Int → Int} {n a : Int} {h : zH} {Q : zV → zH → Prop} (h0 : 0 ≤ a) (hn : n ≤ 1600) (hT : ∀ j, 0 ≤ j → j < n → h 1 j = T j) (N : zWp (l_Tokens_readNumber_58 (d + 1) 5 a (nvA T (if rnE cD T n (n - a).toNat a - a < 4 then (rnE cD T n (n - a).toNat a - a).toNat else 4) a 0) (rnE cD T n (n - a).toNat a) h) Q) : ∀ (f : Nat) {j : Int}, a ≤ j → n - j ≤ f → j ≤ n → (∀ i, a ≤ i → i < j → cD (T i) = true) → rnE cD T n (n - j).toNat j = rnE cD T n (n - a).toNat a → (0 ≤ nvA T (if j - a < 4 then (j - a).toNat else 4) a 0 ∧ (nvA T (if j - a < 4 then (j - a).toNat else 4) a 0 < ((10 ^ (if j - a < 4 then (j - a).toNat else 4) : Nat) : Int))) → zWp (l_Tokens_readNumber_6 (d + 1) 1600 5 1 a n (nvA T (if j - a < 4 then (j - a).toNat else 4) a 0) j h) Q := by
  intro f
  have stop : ∀ j, rnE cD T n (n - j).toNat j = rnE cD T n (n - a).toNat a → ¬ (j < n ∧ cD (T j) = true) → zWp (l_Tokens_readNumber_58 (d + 1) 5 a (nvA T (if j - a < 4 then (j - a).toNat else 4) a 0) j h) Q := by
    intro j he hs
    rw [rn_st hs] at he
    rw [← he] at N
    exact N
  induction f with
  | zero =>
    intro j ha hf hjn hl he hv
    rw [el_Tokens_readNumber_6]
    exact zWp_nt (by omega) (stop j he (fun z => by omega))
  | succ f ih =>
    intro j ha hf hjn hl he hv
    rw [el_Tokens_readNumber_6]
    by_cases c0 : j < n
    case neg => exact zWp_nt c0 (stop j he (fun z => c0 z.1))
    rw [hT j (by omega) c0]
    refine zWp_it c0 (zWp_po (by decide) (zWp_it (by omega) (zWp_po (by decide) (zWp_it (by omega) (zWp_qi q_isD ?_)))))
    by_cases c1 : cD (T j) = true
    case neg =>
      rw [if_neg c1]
      exact zWp_it rfl (stop j he (fun z => c1 z.2))
    have hd : 48 ≤ T j ∧ T j ≤ 57 := of_decide_eq_true c1
    rw [if_pos c1]
    refine zWp_nt (by decide) ?_
    rw [w32_i (x := j - a) (by omega), w32_i (x := j + 1) (by omega), hT j (by omega) c0]
    have hl' : ∀ i, a ≤ i → i < j + 1 → cD (T i) = true := fun i i1 i2 => by
      by_cases z : i = j
      · rw [z]; exact c1
      · exact hl i i1 (by omega)
    have he' : rnE cD T n (n - (j + 1)).toNat (j + 1) = rnE cD T n (n - a).toNat a := by rw [← rn_go c0 c1]; exact he
    by_cases c2 : j - a < 4
    · rw [if_pos c2] at hv
      have ap := nvA_app (T := T) (j - a).toNat a 0
      rw [show a + (((j - a).toNat : Nat) : Int) = j by omega] at ap
      have ex : (if j + 1 - a < 4 then (j + 1 - a).toNat else 4) = (j - a).toNat + 1 := by split <;> omega
      have pw : ((10 ^ ((j - a).toNat + 1) : Nat) : Int) = 10 * ((10 ^ (j - a).toNat : Nat) : Int) := by rw [Nat.pow_succ, Int.natCast_mul, Int.mul_comm]; rfl
      have p4 : (10 : Nat) ^ (j - a).toNat ≤ 10 ^ 3 := Nat.pow_le_pow_right (by decide) (by omega)
      have p3 : (10 : Nat) ^ 3 = 1000 := by decide
      have nx := ih (j := j + 1) (by omega) (by omega) (by omega) hl' he' (by rw [ex, ap, pw]; omega)
      rw [ex, ap] at nx
      refine zWp_it c2 (zWp_po (by decide) (zWp_it (by omega) ?_))
      rw [if_pos c2, w32_i (x := 10 * nvA T (j - a).toNat a 0) (by omega), w32_i (x := 10 * nvA T (j - a).toNat a 0 + T j) (by omega), w32_i (x := 10 * nvA T (j - a).toNat a 0 + T j - 48) (by omega)]
      exact nx
    · rw [if_neg c2] at hv
      have nx := ih (j := j + 1) (by omega) (by omega) (by omega) hl' he' (by rw [if_neg (show ¬ j + 1 - a < 4 by omega)]; exact hv)
      rw [if_neg (show ¬ j + 1 - a < 4 by omega)] at nx
      refine zWp_nt c2 ?_
      rw [if_neg c2]
      exact nx
theorem q_rw92 {d : Nat} {T : Int → Int} {n a : Int} {A : List zTk} {k v : Int} {h : zH} (h0 : 0 ≤ a ∧ a < n) (hn : n ≤ 1600) (hc : cL (T a) = true) (hl : (A.length : Int) < 1601) (e : Int) (he : e = rnE cL T n (n - a).toNat a) (tk : TkR (A ++ [(k, a, v, e, ltS T (e - a).toNat a)]) h) : zWp (l_Tokens_readWord_92 (d + 1) 5 a e h) (fun x h' => x = .inl e ∧ TkR (A ++ [(if 6 < e - a then 5 else k, a, if 6 < e - a then a + 6 else v, e, ltS T (e - a).toNat a)]) h' ∧ frT h h') := by
  have te := rn_b (p := cL) (T := T) (n := n) (n - a).toNat a
  rw [el_Tokens_readWord_92, w32_i (x := e - a) (by omega), w32_i (x := a + 6) (by omega)]
  by_cases c : 6 < e - a
  · refine zWp_it c (zWp_po (by decide) (zWp_bv (q_break (d := d) tk hl) (fun _ h1 u => zWp_s ⟨rfl, ?_, u.2⟩)))
    rw [if_pos c, if_pos c]
    exact u.1
  · refine zWp_nt c (zWp_s ⟨rfl, ?_, frT.rf h⟩)
    rw [if_neg c, if_neg c]
    exact tk
/-- a word or a number is put, as it stands but for what is ahead of it -/
def tkW (T : Int → Int) (n a : Int) : zTk :=
  if cL (T a) = true then
    (if 6 < rnE cL T n (n - a).toNat a - a then 5 else if ownI (pk5 0 (ltS T (if rnE cL T n (n - a).toNat a - a < 6 then (rnE cL T n (n - a).toNat a - a).toNat else 6) a)) = -1 then 1 else 2, a,
      if 6 < rnE cL T n (n - a).toNat a - a then a + 6 else if ownI (pk5 0 (ltS T (if rnE cL T n (n - a).toNat a - a < 6 then (rnE cL T n (n - a).toNat a - a).toNat else 6) a)) = -1 then (pk5 0 (ltS T (if rnE cL T n (n - a).toNat a - a < 6 then (rnE cL T n (n - a).toNat a - a).toNat else 6) a) : Int) else ownI (pk5 0 (ltS T (if rnE cL T n (n - a).toNat a - a < 6 then (rnE cL T n (n - a).toNat a - a).toNat else 6) a)),
      rnE cL T n (n - a).toNat a, ltS T (rnE cL T n (n - a).toNat a - a).toNat a)
  else
    (if 4 < rnE cD T n (n - a).toNat a - a then 5 else 3, a,
      if 4 < rnE cD T n (n - a).toNat a - a then a + 4 else nvA T (if rnE cD T n (n - a).toNat a - a < 4 then (rnE cD T n (n - a).toNat a - a).toNat else 4) a 0,
      rnE cD T n (n - a).toNat a, [])
theorem q_readWord {d : Nat} {T : Int → Int} {n a : Int} {A : List zTk} {h : zH} (h0 : 0 ≤ a ∧ a < n) (hn : n ≤ 1600) (hT : ∀ j, 0 ≤ j → j < n → h 1 j = T j) (ow : ∀ i : Nat, i < 26 → h 6 (i : Int) = ownW.getD i 0) (hc : cL (T a) = true) (hl : (A.length : Int) < 1601) (tk : TkR A h) : zWp (m_Tokens_readWord (d + 3) 1600 5 1 a n h) (fun x h' => x = .inl (tkW T n a).2.2.2.1 ∧ TkR (A ++ [tkW T n a]) h' ∧ frT h h') := by
  have eW : tkW T n a = _ := if_pos hc
  rw [eW]
  rw [em_Tokens_readWord]
  have st := q_rw6 (d := d + 1) (T := T) (n := n) (a := a) (h := h) (Q := fun x h' => x = .inl (rnE cL T n (n - a).toNat a) ∧ TkR (A ++ [(if 6 < rnE cL T n (n - a).toNat a - a then 5 else if ownI (pk5 0 (ltS T (if rnE cL T n (n - a).toNat a - a < 6 then (rnE cL T n (n - a).toNat a - a).toNat else 6) a)) = -1 then 1 else 2, a, if 6 < rnE cL T n (n - a).toNat a - a then a + 6 else if ownI (pk5 0 (ltS T (if rnE cL T n (n - a).toNat a - a < 6 then (rnE cL T n (n - a).toNat a - a).toNat else 6) a)) = -1 then (pk5 0 (ltS T (if rnE cL T n (n - a).toNat a - a < 6 then (rnE cL T n (n - a).toNat a - a).toNat else 6) a) : Int) else ownI (pk5 0 (ltS T (if rnE cL T n (n - a).toNat a - a < 6 then (rnE cL T n (n - a).toNat a - a).toNat else 6) a)), rnE cL T n (n - a).toNat a, ltS T (rnE cL T n (n - a).toNat a - a).toNat a)]) h' ∧ frT h h') h0.1 hn hT ?_ (n - a).toNat (j := a) (Int.le_refl _) (by omega) (by omega) (fun i i1 i2 => by omega) rfl
  · have e0 : (pk5 0 (ltS T (if a - a < 6 then (a - a).toNat else 6) a) : Int) = 0 := by rw [if_pos (by omega), show (a - a).toNat = 0 by omega]; rfl
    rw [e0] at st
    exact st
  · generalize hp : (pk5 0 (ltS T (if rnE cL T n (n - a).toNat a - a < 6 then (rnE cL T n (n - a).toNat a - a).toNat else 6) a) : Int) = p
    rw [el_Tokens_readWord_59]
    refine zWp_po (by decide) (zWp_qi (q_ownWord (d := d + 1) ow) ?_)
    by_cases c : ownI p = -1
    · refine zWp_it c (zWp_po (by decide) (zWp_bv (q_put (d := d + 1) (e := rnE cL T n (n - a).toNat a) (Ls := ltS T (rnE cL T n (n - a).toNat a - a).toNat a) tk hl) (fun _ h1 u => zWp_m (q_rw92 (d := d + 1) h0 hn hc hl _ rfl u.1) (fun x h' y => ⟨y.1, ?_, u.2.t y.2.2⟩))))
      rw [if_pos c, if_pos c]
      exact y.2.1
    · refine zWp_nt c (zWp_po (by decide) (zWp_bv (q_put (d := d + 1) (e := rnE cL T n (n - a).toNat a) (Ls := ltS T (rnE cL T n (n - a).toNat a - a).toNat a) tk hl) (fun _ h1 u => zWp_m (q_rw92 (d := d + 1) h0 hn hc hl _ rfl u.1) (fun x h' y => ⟨y.1, ?_, u.2.t y.2.2⟩))))
      rw [if_neg c, if_neg c]
      exact y.2.1
theorem q_readNum {d : Nat} {T : Int → Int} {n a : Int} {A : List zTk} {h : zH} (h0 : 0 ≤ a ∧ a < n) (hn : n ≤ 1600) (hT : ∀ j, 0 ≤ j → j < n → h 1 j = T j) (hc : ¬ cL (T a) = true) (hl : (A.length : Int) < 1601) (tk : TkR A h) : zWp (m_Tokens_readNumber (d + 3) 1600 5 1 a n h) (fun x h' => x = .inl (tkW T n a).2.2.2.1 ∧ TkR (A ++ [tkW T n a]) h' ∧ frT h h') := by
  have eW : tkW T n a = _ := if_neg hc
  have te := rn_b (p := cD) (T := T) (n := n) (n - a).toNat a
  rw [eW]
  rw [em_Tokens_readNumber]
  have st := q_rn6 (d := d + 1) (T := T) (n := n) (a := a) (h := h) (Q := fun x h' => x = .inl (rnE cD T n (n - a).toNat a) ∧ TkR (A ++ [(if 4 < rnE cD T n (n - a).toNat a - a then 5 else 3, a, if 4 < rnE cD T n (n - a).toNat a - a then a + 4 else nvA T (if rnE cD T n (n - a).toNat a - a < 4 then (rnE cD T n (n - a).toNat a - a).toNat else 4) a 0, rnE cD T n (n - a).toNat a, [])]) h' ∧ frT h h') h0.1 hn hT ?_ (n - a).toNat (j := a) (Int.le_refl _) (by omega) (by omega) (fun i i1 i2 => by omega) rfl (by rw [if_pos (show a - a < 4 by omega), show (a - a).toNat = 0 by omega]; exact ⟨Int.le_refl _, show (0 : Int) < ((10 ^ 0 : Nat) : Int) by decide⟩)
  · have e0 : nvA T (if a - a < 4 then (a - a).toNat else 4) a 0 = 0 := by rw [if_pos (by omega), show (a - a).toNat = 0 by omega]; rfl
    rw [e0] at st
    exact st
  · rw [el_Tokens_readNumber_58, w32_i (x := rnE cD T n (n - a).toNat a - a) (by omega), w32_i (x := a + 4) (by omega)]
    refine zWp_po (by decide) (zWp_bv (q_put (d := d + 1) (e := rnE cD T n (n - a).toNat a) (Ls := []) tk hl) (fun _ h1 u => ?_))
    by_cases c : 4 < rnE cD T n (n - a).toNat a - a
    · refine zWp_it c (zWp_po (by decide) (zWp_bv (q_break (d := d + 1) u.1 hl) (fun _ h2 y => zWp_s ⟨rfl, ?_, u.2.t y.2⟩)))
      rw [if_pos c, if_pos c]
      exact y.1
    · refine zWp_nt c (zWp_s ⟨rfl, ?_, u.2⟩)
      rw [if_neg c, if_neg c]
      exact u.1
theorem tkW_at {T : Int → Int} {n a : Int} (hc : cL (T a) = true ∨ cD (T a) = true) : tkAt T n a = if adjT T a = true then (5, a, a, (tkW T n a).2.2.2) else tkW T n a := by
  have sp : ∀ (e : Int), ¬ 6 < e → (if e < 6 then e.toNat else 6) = e.toNat := fun e h => by split <;> omega
  have sp4 : ∀ (e : Int), ¬ 4 < e → (if e < 4 then e.toNat else 4) = e.toNat := fun e h => by split <;> omega
  unfold tkAt tkW
  by_cases c1 : cL (T a) = true
  · rw [if_pos c1, if_pos c1]
    by_cases c2 : adjT T a = true
    · rw [if_pos c2, if_pos c2, if_pos c2]
    · rw [if_neg c2, if_neg c2, if_neg c2]
      by_cases c3 : 6 < rnE cL T n (n - a).toNat a - a
      · rw [if_pos c3, if_pos c3, if_pos c3, if_pos c3]
      · rw [if_neg c3, if_neg c3, if_neg c3, if_neg c3, sp _ c3]
  · have cd : cD (T a) = true := by rcases hc with z | z; exact absurd z c1; exact z
    rw [if_neg c1, if_neg c1, if_pos cd]
    by_cases c2 : adjT T a = true
    · rw [if_pos c2, if_pos c2, if_pos c2]
    · rw [if_neg c2, if_neg c2, if_neg c2]
      by_cases c3 : 4 < rnE cD T n (n - a).toNat a - a
      · rw [if_pos c3, if_pos c3, if_pos c3]
      · rw [if_neg c3, if_neg c3, if_neg c3, sp4 _ c3]
