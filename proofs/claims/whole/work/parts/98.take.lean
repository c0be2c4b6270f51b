/-! the class makes its tokens, and takes them -/
theorem cB_n {c : Int} (h : cL c = true ∨ cD c = true) : ¬ cB c = true := by
  intro z
  have z' : c = 32 ∨ c = 10 := of_decide_eq_true z
  rcases h with u | u
  · have : 97 ≤ c ∧ c ≤ 122 := of_decide_eq_true u
    omega
  · have : 48 ≤ c ∧ c ≤ 57 := of_decide_eq_true u
    omega
theorem adjT_n {T : Int → Int} {a : Int} (h : ¬ (cL (T a) = true ∨ cD (T a) = true)) : ¬ adjT T (a + 1) = true := by
  intro z
  unfold adjT at z
  rw [Int.add_sub_cancel, Bool.and_eq_true, Bool.or_eq_true] at z
  exact h z.2
theorem adjT_e {T : Int → Int} {n a : Int} (h0 : 0 ≤ a ∧ a < n) (h : cL (T a) = true ∨ cD (T a) = true) : adjT T (tkW T n a).2.2.2.1 = true := by
  unfold adjT tkW
  by_cases c : cL (T a) = true
  · rw [if_pos c]
    have e1 := rn_b (p := cL) (T := T) (n := n) (n - (a + 1)).toNat (a + 1)
    have e2 := rn_in (p := cL) (T := T) (n := n) (n - a).toNat a (rnE cL T n (n - a).toNat a - 1) (by rw [rn_go h0.2 c]; omega) (by omega)
    show (decide (0 < rnE cL T n (n - a).toNat a) && (cL (T (rnE cL T n (n - a).toNat a - 1)) || cD (T (rnE cL T n (n - a).toNat a - 1)))) = true
    rw [e2, decide_eq_true (by rw [rn_go h0.2 c]; omega)]
    rfl
  · rw [if_neg c]
    have cd : cD (T a) = true := by rcases h with z | z; exact absurd z c; exact z
    have e1 := rn_b (p := cD) (T := T) (n := n) (n - (a + 1)).toNat (a + 1)
    have e2 := rn_in (p := cD) (T := T) (n := n) (n - a).toNat a (rnE cD T n (n - a).toNat a - 1) (by rw [rn_go h0.2 cd]; omega) (by omega)
    show (decide (0 < rnE cD T n (n - a).toNat a) && (cL (T (rnE cD T n (n - a).toNat a - 1)) || cD (T (rnE cD T n (n - a).toNat a - 1)))) = true
    rw [e2, decide_eq_true (by rw [rn_go h0.2 cd]; omega), Bool.or_true]
    rfl
theorem tkW_e {T : Int → Int} {n a : Int} (hc : cL (T a) = true ∨ cD (T a) = true) : (tkAt T n a).2.2.2.1 = (tkW T n a).2.2.2.1 := by
  rw [tkW_at hc]
  by_cases c : adjT T a = true
  · rw [if_pos c]
  · rw [if_neg c]
theorem q_tb97 {d : Nat} {T : Int → Int} {n a r e : Int} {A : List zTk} {h : zH} {Q : zV → zH → Prop} (hc : cL (T a) = true ∨ cD (T a) = true) (hl : (A.length : Int) < 1601) (tk : TkR (A ++ [tkW T n a]) h) (ea : (tkW T n a).2.1 = a) (N : ∀ h', TkR (A ++ [tkAt T n a]) h' → frT h h' → zWp (l_Tokens_begin_23 (d + 3) 1600 5 1 n 1 e (w32 (r + 1)) h') Q) : zWp (l_Tokens_begin_97 (d + 3) 1600 5 1 n (if adjT T a = true then 1 else 0) r a e h) Q := by
  rw [el_Tokens_begin_97]
  have et := tkW_at (n := n) hc
  by_cases c : adjT T a = true
  · rw [if_pos c] at et
    rw [if_pos c]
    refine zWp_nt (by decide) (zWp_po (by decide) (zWp_bv (q_break (d := d + 2) (x := a) tk hl) (fun _ h1 u => N h1 ?_ u.2)))
    rw [et]
    have := u.1
    rw [ea] at this
    exact this
  · rw [if_neg c] at et
    rw [if_neg c]
    refine zWp_it rfl (N h ?_ (frT.rf h))
    rw [et]
    exact tk
theorem tkW_a {T : Int → Int} {n a : Int} : (tkW T n a).2.1 = a := by
  unfold tkW
  by_cases c : cL (T a) = true
  · rw [if_pos c]
  · rw [if_neg c]
theorem q_tb70 {d : Nat} {T : Int → Int} {n a r : Int} {A : List zTk} {h : zH} {Q : zV → zH → Prop} (h0 : 0 ≤ a ∧ a < n) (hn : n ≤ 1600) (hT : ∀ j, 0 ≤ j → j < n → h 1 j = T j) (ow : ∀ i : Nat, i < 26 → h 6 (i : Int) = ownW.getD i 0) (hc : cL (T a) = true ∨ cD (T a) = true) (hl : (A.length : Int) < 1601) (tk : TkR A h) (N : ∀ h', TkR (A ++ [tkAt T n a]) h' → frT h h' → zWp (l_Tokens_begin_23 (d + 3) 1600 5 1 n 1 (tkAt T n a).2.2.2.1 (w32 (r + 1)) h') Q) : zWp (l_Tokens_begin_70 (d + 3) 1600 5 1 n (if adjT T a = true then 1 else 0) r (T a) a h) Q := by
  rw [el_Tokens_begin_70]
  refine zWp_qi (q_isL (d := d + 2)) ?_
  rw [tkW_e hc] at N
  by_cases c : cL (T a) = true
  · rw [if_pos c]
    refine zWp_nt (by decide) (zWp_po (by decide) (zWp_bi (P := fun x h' => x = (tkW T n a).2.2.2.1 ∧ TkR (A ++ [tkW T n a]) h' ∧ frT h h') (zWp_m (q_readWord (d := d) h0 hn hT ow c hl tk) (fun x h' u => ⟨_, u.1, rfl, u.2⟩)) (fun x h1 u => ?_)))
    rw [u.1]
    exact q_tb97 hc hl u.2.1 tkW_a (fun h' t' f' => N h' t' (u.2.2.t f'))
  · rw [if_neg c]
    refine zWp_it rfl (zWp_po (by decide) (zWp_bi (P := fun x h' => x = (tkW T n a).2.2.2.1 ∧ TkR (A ++ [tkW T n a]) h' ∧ frT h h') (zWp_m (q_readNum (d := d) h0 hn hT c hl tk) (fun x h' u => ⟨_, u.1, rfl, u.2⟩)) (fun x h1 u => ?_)))
    rw [u.1]
    exact q_tb97 hc hl u.2.1 tkW_a (fun h' t' f' => N h' t' (u.2.2.t f'))
theorem q_tb23 {d : Nat} {T : Int → Int} {n : Int} {Q : zV → zH → Prop} (hn : n ≤ 1600) : ∀ (f : Nat) {a r w : Int} {A : List zTk} {h : zH}, 0 ≤ a → a ≤ n → n - a ≤ f → 0 ≤ r → r ≤ a → (A.length : Int) ≤ a → w = (if adjT T a = true then 1 else 0) → (∀ j, 0 ≤ j → j < n → h 1 j = T j) → (∀ i : Nat, i < 26 → h 6 (i : Int) = ownW.getD i 0) → TkR A h → (∀ h', TkR (A ++ lexF T n f a) h' → frT h h' → zWp (l_Tokens_begin_142 (d + 3) 5 n h') Q) → zWp (l_Tokens_begin_23 (d + 3) 1600 5 1 n w a r h) Q := by
  intro f
  induction f with
  | zero =>
    intro a r w A h h0 ha hf hr hra hA hw hT ow tk N
    rw [el_Tokens_begin_23]
    have : ¬ a < n := by have : n - a ≤ ((0 : Nat) : Int) := hf; omega
    have nx := N h (by rw [lexF, List.append_nil]; exact tk) (frT.rf h)
    exact zWp_if (fun _ => zWp_nt this nx) (fun _ => nx)
  | succ f ih =>
    intro a r w A h h0 ha hf hr hra hA hw hT ow tk N
    rw [el_Tokens_begin_23]
    by_cases c : a < n
    case neg =>
      have nx := N h (by rw [lexF, if_neg c, List.append_nil]; exact tk) (frT.rf h)
      exact zWp_if (fun _ => zWp_nt c nx) (fun _ => nx)
    have te := tk_end (T := T) c
    rw [hT a h0 c, hw, w32_i (x := a + 1) (by omega), w32_i (x := r + 1) (by omega)]
    rw [lexF, if_pos c] at N
    have fT : ∀ h', frT h h' → ∀ j, 0 ≤ j → j < n → h' 1 j = T j := fun h' u j a1 a2 => by rw [u.1 1 (by decide)]; exact hT j a1 a2
    have fO : ∀ h', frT h h' → ∀ i : Nat, i < 26 → h' 6 (i : Int) = ownW.getD i 0 := fun h' u i hi => by rw [u.1 6 (by decide)]; exact ow i hi
    refine zWp_it (by omega) (zWp_it c (zWp_po (by decide) (zWp_it (by omega) (zWp_po (by decide) (zWp_it (by omega) (zWp_qi (q_isL (d := d + 2)) ?_))))))
    have wd : cL (T a) = true ∨ cD (T a) = true → zWp (l_Tokens_begin_70 (d + 3) 1600 5 1 n (if adjT T a = true then 1 else 0) r (T a) a h) Q := by
      intro hc
      rw [if_neg (cB_n hc)] at N
      refine q_tb70 ⟨h0, c⟩ hn hT ow hc (by omega) tk (fun h' t' f' => ?_)
      rw [w32_i (x := r + 1) (by omega)]
      refine ih (by omega) te.2 (by omega) (by omega) (by omega) (by rw [List.length_append]; show ((A.length + 1 : Nat) : Int) ≤ _; omega) ?_ (fT h' f') (fO h' f') t' (fun h2 t2 f2 => N h2 ?_ (f'.t f2))
      · rw [tkW_e hc, if_pos (adjT_e ⟨h0, c⟩ hc)]
      · rw [List.append_assoc] at t2; exact t2
    by_cases c1 : cL (T a) = true
    · rw [if_pos c1]
      exact zWp_nt (by decide) (wd (Or.inl c1))
    rw [if_neg c1]
    refine zWp_it rfl (zWp_qi (q_isD (d := d + 2)) ?_)
    by_cases c2 : cD (T a) = true
    · rw [if_pos c2]
      exact zWp_nt (by decide) (wd (Or.inr c2))
    rw [if_neg c2]
    refine zWp_it rfl (zWp_qi (q_isB (d := d + 2)) ?_)
    have nz : (0 : Int) = (if adjT T (a + 1) = true then 1 else 0) := by rw [if_neg (adjT_n (fun z => by rcases z with z | z; exact c1 z; exact c2 z))]
    by_cases c3 : cB (T a) = true
    · rw [if_pos c3]
      rw [if_pos c3] at N
      exact zWp_nt (by decide) (ih (by omega) (by omega) (by omega) (by omega) (by omega) (by omega) nz hT ow tk N)
    · rw [if_neg c3]
      rw [if_neg c3] at N
      have et : tkAt T n a = (4, a, T a, a + 1, []) := by unfold tkAt; rw [if_neg c1, if_neg c2]
      rw [et] at N
      refine zWp_it rfl (zWp_po (by decide) (zWp_bv (q_put (d := d + 2) (e := a + 1) (Ls := []) tk (by omega)) (fun _ h1 u => ?_)))
      refine ih (by omega) (by omega) (by omega) (by omega) (by omega) (by rw [List.length_append]; show ((A.length + 1 : Nat) : Int) ≤ _; omega) nz (fT h1 u.2) (fO h1 u.2) u.1 (fun h2 t2 f2 => N h2 ?_ (u.2.t f2))
      rw [List.append_assoc] at t2; exact t2
