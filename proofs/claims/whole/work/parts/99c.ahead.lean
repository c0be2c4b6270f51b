/-! the reference reads a token -/
def blH (k p : Int) (h : zH) : zH := if 0 < h 403 8 then h else zset (zset h 403 8 k) 403 9 p
theorem q_R_blame {d : Nat} {k p : Int} {h : zH} : m_R_blame (d + 1) k p h = some (.inl 0, blH k p h) := by
  rw [em_R_blame]
  unfold blH
  by_cases c : 0 < h 403 8
  · rw [zit_t c, if_pos c]
  · rw [zit_f c, if_neg c]; rfl
theorem q_R_isL {d : Nat} {x : Int} {h : zH} : m_R_isLetter (d + 1) x h = some (.inl (if cL x = true then 1 else 0), h) := by
  rw [em_R_isLetter]
  unfold cL
  by_cases c : 97 ≤ x ∧ x ≤ 122
  · rw [decide_eq_true c, zit_f (by omega), zit_f (by omega)]; rfl
  · rw [decide_eq_false c]
    by_cases c2 : x < 97
    · rw [zit_t c2]; rfl
    · rw [zit_f c2, zit_t (by omega)]; rfl
theorem q_R_isD {d : Nat} {x : Int} {h : zH} : m_R_isDigit (d + 1) x h = some (.inl (if cD x = true then 1 else 0), h) := by
  rw [em_R_isDigit]
  unfold cD
  by_cases c : 48 ≤ x ∧ x ≤ 57
  · rw [decide_eq_true c, zit_f (by omega), zit_f (by omega)]; rfl
  · rw [decide_eq_false c]
    by_cases c2 : x < 48
    · rw [zit_t c2]; rfl
    · rw [zit_f c2, zit_t (by omega)]; rfl
theorem pk8_app {x : Nat} : ∀ (L : List Nat) (k : Nat), pk8 k (L ++ [x]) = pk8 k L * 256 + (x + 96)
  | [], _ => rfl
  | y :: L, k => by rw [List.cons_append, pk8, pk8]; exact pk8_app L _
theorem pk8_lt : ∀ (L : List Nat) (k : Nat), (∀ x ∈ L, x ≤ 26) → pk8 k L < (k + 1) * 256 ^ L.length
  | [], k, _ => by show k < (k + 1) * 1; omega
  | y :: L, k, h => by
    have hy := h y (List.mem_cons_self ..)
    have ih := pk8_lt L (k * 256 + (y + 96)) (fun x hx => h x (List.mem_cons_of_mem _ hx))
    rw [pk8, List.length_cons, Nat.pow_succ, Nat.mul_comm (256 ^ L.length) 256, ← Nat.mul_assoc]
    exact Nat.lt_of_lt_of_le ih (Nat.mul_le_mul_right _ (by omega))
/-- a word or a number in the reading: slot s, at most m, its value V so far, the fault before -/
def WI (s m : Int) (V : Int → Int) (a φ ψ : Int) (h0 : zH) (j : Int) (h : zH) : Prop :=
  (j - a ≤ m → h 403 s = V (j - a) ∧ h 403 8 = φ ∧ h 403 9 = ψ) ∧ (m < j - a → h 403 8 = (if 0 < φ then φ else 1) ∧ h 403 9 = (if 0 < φ then ψ else a + m)) ∧ (∀ r, r ≠ 403 → h r = h0 r) ∧ ∀ q, ¬ (q = s ∨ q = 8 ∨ q = 9) → h 403 q = h0 403 q
theorem WI.bl {s m : Int} {V : Int → Int} {a φ ψ : Int} {h0 : zH} {j : Int} {h : zH} (w : WI s m V a φ ψ h0 j h) (e : j - a = m) : WI s m V a φ ψ h0 (j + 1) (blH 1 j h) := by
  obtain ⟨w1, _, w3, w4⟩ := w
  have u := w1 (by omega)
  unfold blH
  rw [u.2.1]
  by_cases c : 0 < φ
  · rw [if_pos c]
    refine ⟨fun z => absurd z (by omega), fun _ => ?_, w3, w4⟩
    rw [if_pos c, if_pos c]; exact u.2
  · rw [if_neg c]
    refine ⟨fun z => absurd z (by omega), fun _ => ?_, fun r hr => ?_, fun q hq => ?_⟩
    · rw [if_neg c, if_neg c, zset_e, zset_j (by decide), zset_e]; exact ⟨rfl, by omega⟩
    · rw [zset_n hr, zset_n hr]; exact w3 r hr
    · rw [zset_j (by omega), zset_j (by omega)]; exact w4 q hq
theorem WI.ov {s m : Int} {V : Int → Int} {a φ ψ : Int} {h0 : zH} {j : Int} {h : zH} (w : WI s m V a φ ψ h0 j h) (e : m < j - a) : WI s m V a φ ψ h0 (j + 1) h :=
  ⟨fun z => absurd z (by omega), fun _ => w.2.1 e, w.2.2⟩
theorem WI.up {s m : Int} {V : Int → Int} {a φ ψ v : Int} {h0 : zH} {j : Int} {h : zH} (w : WI s m V a φ ψ h0 j h) (hs : s = 6 ∨ s = 7) (e : j - a < m) (ev : v = V (j + 1 - a)) : WI s m V a φ ψ h0 (j + 1) (zset h 403 s v) := by
  obtain ⟨w1, _, w3, w4⟩ := w
  have u := w1 (by omega)
  refine ⟨fun _ => ⟨by rw [zset_e, ev], by rw [zset_j (by omega)]; exact u.2.1, by rw [zset_j (by omega)]; exact u.2.2⟩, fun z => absurd z (by omega), fun r hr => by rw [zset_n hr]; exact w3 r hr, fun q hq => by rw [zset_j (by omega)]; exact w4 q hq⟩
theorem q_R_ahW {d : Nat} {T : Int → Int} {n a φ ψ : Int} {h0 : zH} (ha : 0 ≤ a) (hn : n ≤ 1600) (hT : ∀ j, 0 ≤ j → j < n → h0 404 j = T j) (hN : h0 403 2 = n) : ∀ (f : Nat) {j : Int} {h : zH}, a ≤ j → n - j ≤ f → j ≤ n → (∀ i, a ≤ i → i < j → cL (T i) = true) → rnE cL T n (n - j).toNat j = rnE cL T n (n - a).toNat a → WI 7 6 (fun k => (pk8 0 (ltS T k.toNat a) : Int)) a φ ψ h0 j h → zWp (l_R_ahead_200 (d + 1) j 1 0 6 (j - a) h) (fun _ h' => ∃ hz, WI 7 6 (fun k => (pk8 0 (ltS T k.toNat a) : Int)) a φ ψ h0 (rnE cL T n (n - a).toNat a) hz ∧ h' = zset hz 403 5 (rnE cL T n (n - a).toNat a)) := by
  intro f
  have stop : ∀ j h, rnE cL T n (n - j).toNat j = rnE cL T n (n - a).toNat a → ¬ (j < n ∧ cL (T j) = true) → WI 7 6 (fun k => (pk8 0 (ltS T k.toNat a) : Int)) a φ ψ h0 j h → zWp (zlt (zset h 403 5 j) fun h1 => some (.inl 0, h1)) (fun _ h' => ∃ hz, WI 7 6 (fun k => (pk8 0 (ltS T k.toNat a) : Int)) a φ ψ h0 (rnE cL T n (n - a).toNat a) hz ∧ h' = zset hz 403 5 (rnE cL T n (n - a).toNat a)) := by
    intro j h he hs w
    rw [rn_st hs] at he
    rw [← he]
    exact zWp_lt fun h1 e1 => zWp_s ⟨h, w, e1⟩
  induction f with
  | zero =>
    intro j h hj hf hjn hl he w
    rw [el_R_ahead_200, w.2.2.2 2 (by decide), hN]
    have hf' : n - j ≤ 0 := hf
    exact zWp_nt (by omega) (stop j h he (fun z => by omega) w)
  | succ f ih =>
    intro j h hj hf hjn hl he w
    rw [el_R_ahead_200, w.2.2.2 2 (by decide), hN]
    by_cases c0 : j < n
    case neg => exact zWp_nt c0 (stop j h he (fun z => c0 z.1) w)
    rw [w.2.2.1 404 (by decide), hT j (by omega) c0]
    refine zWp_it c0 (zWp_nt (by decide) (zWp_it (by omega) (zWp_qi q_R_isL ?_)))
    by_cases c1 : cL (T j) = true
    case neg =>
      rw [if_neg c1]
      exact zWp_it rfl (stop j h he (fun z => c1 z.2) w)
    rw [if_pos c1]
    refine zWp_nt (by decide) ?_
    have hl' : ∀ i, a ≤ i → i < j + 1 → cL (T i) = true := fun i i1 i2 => by
      by_cases z : i = j
      · rw [z]; exact c1
      · exact hl i i1 (by omega)
    have he' : rnE cL T n (n - (j + 1)).toNat (j + 1) = rnE cL T n (n - a).toNat a := by rw [← rn_go c0 c1]; exact he
    have nx : ∀ h', WI 7 6 (fun k => (pk8 0 (ltS T k.toNat a) : Int)) a φ ψ h0 (j + 1) h' → zWp (l_R_ahead_200 (d + 1) (w32 (j + 1)) 1 0 6 (w32 (j - a + 1)) h') (fun _ h' => ∃ hz, WI 7 6 (fun k => (pk8 0 (ltS T k.toNat a) : Int)) a φ ψ h0 (rnE cL T n (n - a).toNat a) hz ∧ h' = zset hz 403 5 (rnE cL T n (n - a).toNat a)) := by
      intro h' w'
      have := ih (j := j + 1) (h := h') (by omega) (by omega) (by omega) hl' he' w'
      rw [w32_i (x := j + 1) (by omega), w32_i (x := j - a + 1) (by omega), show j - a + 1 = j + 1 - a by omega]
      exact this
    rw [el_R_ahead_239]
    by_cases c2 : j - a = 6
    · refine zWp_it c2 (zWp_qv q_R_blame ?_)
      rw [el_R_ahead_252]
      refine zWp_nt (by omega) ?_
      rw [el_R_ahead_282]
      exact zWp_nt (by omega) (nx _ (w.bl c2))
    refine zWp_nt c2 ?_
    rw [el_R_ahead_252]
    by_cases c3 : j - a < 6
    · refine zWp_it c3 (zWp_nt (by decide) (zWp_it (by omega) (zWp_lt fun h1 e1 => ?_)))
      rw [el_R_ahead_282]
      refine zWp_it c3 (zWp_it rfl (nx h1 ?_))
      rw [e1]
      refine w.up (Or.inr rfl) c3 ?_
      have u := (w.1 (by omega)).1
      have ut : 97 ≤ T j ∧ T j ≤ 122 := of_decide_eq_true c1
      have l26 := ltS_31 (T := T) (j - a).toNat a (fun i i1 i2 => hl i i1 (by omega))
      have b8 := pk8_lt (ltS T (j - a).toNat a) 0 (fun x hx => (l26 x hx).2)
      rw [ltS_len, Nat.zero_add, Nat.one_mul] at b8
      have b9 : (256 : Nat) ^ (j - a).toNat ≤ 256 ^ 5 := Nat.pow_le_pow_right (by decide) (by omega)
      have b10 : (256 : Nat) ^ 5 = 1099511627776 := by decide
      have p8 : (2 : Nat) ^ 8 = 256 := by decide
      have p63 : (2 : Nat) ^ 63 = 9223372036854775808 := by decide
      rw [w.2.2.1 404 (by decide), hT j (by omega) c0, u]
      show zlor (zlshl ((pk8 0 (ltS T (j - a).toNat a) : Nat) : Int) ((8 : Nat) : Int)) (T j) = _
      rw [zlshl_n (by decide) (by omega), show T j = (((T j).toNat : Nat) : Int) by omega, zlor_n (by omega) (by omega)]
      have ea : ltS T (j + 1 - a).toNat a = ltS T (j - a).toNat a ++ [(T j - 96).toNat] := by
        have := ltS_app (T := T) (j - a).toNat a
        rw [show a + (((j - a).toNat : Nat) : Int) = j by omega] at this
        rw [← this]
        congr 1
        omega
      show _ = ((pk8 0 (ltS T (j + 1 - a).toNat a) : Nat) : Int)
      rw [ea, pk8_app, show (T j - 96).toNat + 96 = (T j).toNat by omega, Nat.mul_comm _ 256, ← p8]
      exact congrArg Int.ofNat (Nat.two_pow_add_eq_or_of_lt (show (T j).toNat < 2 ^ 8 by omega) _).symm
    · refine zWp_nt c3 ?_
      rw [el_R_ahead_282]
      exact zWp_nt c3 (nx h (w.ov (by omega)))
theorem q_R_ahN {d : Nat} {T : Int → Int} {n a φ ψ : Int} {h0 : zH} (ha : 0 ≤ a) (hn : n ≤ 1600) (hT : ∀ j, 0 ≤ j → j < n → h0 404 j = T j) (hN : h0 403 2 = n) : ∀ (f : Nat) {j : Int} {h : zH}, a ≤ j → n - j ≤ f → j ≤ n → (∀ i, a ≤ i → i < j → cD (T i) = true) → rnE cD T n (n - j).toNat j = rnE cD T n (n - a).toNat a → WI 6 4 (fun k => nvA T k.toNat a 0) a φ ψ h0 j h → zWp (l_R_ahead_200 (d + 1) j 0 1 4 (j - a) h) (fun _ h' => ∃ hz, WI 6 4 (fun k => nvA T k.toNat a 0) a φ ψ h0 (rnE cD T n (n - a).toNat a) hz ∧ h' = zset hz 403 5 (rnE cD T n (n - a).toNat a)) := by
  intro f
  have stop : ∀ j h, rnE cD T n (n - j).toNat j = rnE cD T n (n - a).toNat a → ¬ (j < n ∧ cD (T j) = true) → WI 6 4 (fun k => nvA T k.toNat a 0) a φ ψ h0 j h → zWp (zlt (zset h 403 5 j) fun h1 => some (.inl 0, h1)) (fun _ h' => ∃ hz, WI 6 4 (fun k => nvA T k.toNat a 0) a φ ψ h0 (rnE cD T n (n - a).toNat a) hz ∧ h' = zset hz 403 5 (rnE cD T n (n - a).toNat a)) := by
    intro j h he hs w
    rw [rn_st hs] at he
    rw [← he]
    exact zWp_lt fun h1 e1 => zWp_s ⟨h, w, e1⟩
  induction f with
  | zero =>
    intro j h hj hf hjn hl he w
    rw [el_R_ahead_200, w.2.2.2 2 (by decide), hN]
    have hf' : n - j ≤ 0 := hf
    exact zWp_nt (by omega) (stop j h he (fun z => by omega) w)
  | succ f ih =>
    intro j h hj hf hjn hl he w
    rw [el_R_ahead_200, w.2.2.2 2 (by decide), hN]
    by_cases c0 : j < n
    case neg => exact zWp_nt c0 (stop j h he (fun z => c0 z.1) w)
    rw [w.2.2.1 404 (by decide), hT j (by omega) c0]
    refine zWp_it c0 (zWp_it rfl (zWp_it (by omega) (zWp_qi q_R_isD ?_)))
    by_cases c1 : cD (T j) = true
    case neg =>
      rw [if_neg c1]
      exact zWp_it rfl (stop j h he (fun z => c1 z.2) w)
    rw [if_pos c1]
    refine zWp_nt (by decide) ?_
    have hl' : ∀ i, a ≤ i → i < j + 1 → cD (T i) = true := fun i i1 i2 => by
      by_cases z : i = j
      · rw [z]; exact c1
      · exact hl i i1 (by omega)
    have he' : rnE cD T n (n - (j + 1)).toNat (j + 1) = rnE cD T n (n - a).toNat a := by rw [← rn_go c0 c1]; exact he
    have nx : ∀ h', WI 6 4 (fun k => nvA T k.toNat a 0) a φ ψ h0 (j + 1) h' → zWp (l_R_ahead_200 (d + 1) (w32 (j + 1)) 0 1 4 (w32 (j - a + 1)) h') (fun _ h' => ∃ hz, WI 6 4 (fun k => nvA T k.toNat a 0) a φ ψ h0 (rnE cD T n (n - a).toNat a) hz ∧ h' = zset hz 403 5 (rnE cD T n (n - a).toNat a)) := by
      intro h' w'
      have := ih (j := j + 1) (h := h') (by omega) (by omega) (by omega) hl' he' w'
      rw [w32_i (x := j + 1) (by omega), w32_i (x := j - a + 1) (by omega), show j - a + 1 = j + 1 - a by omega]
      exact this
    rw [el_R_ahead_239]
    by_cases c2 : j - a = 4
    · refine zWp_it c2 (zWp_qv q_R_blame ?_)
      rw [el_R_ahead_252]
      refine zWp_nt (by omega) ?_
      rw [el_R_ahead_282]
      exact zWp_nt (by omega) (nx _ (w.bl c2))
    refine zWp_nt c2 ?_
    rw [el_R_ahead_252]
    by_cases c3 : j - a < 4
    · refine zWp_it c3 (zWp_it rfl ?_)
      rw [el_R_ahead_282]
      refine zWp_it c3 (zWp_nt (by decide) (zWp_it (by omega) (zWp_lt fun h1 e1 => nx h1 ?_)))
      rw [e1]
      refine w.up (Or.inl rfl) c3 ?_
      have u := (w.1 (by omega)).1
      have ut : 48 ≤ T j ∧ T j ≤ 57 := of_decide_eq_true c1
      have b := nvA_b (T := T) (j - a).toNat a 0 (Int.le_refl _) (fun i i1 i2 => hl i i1 (by omega))
      have p : (10 : Int) ^ (j - a).toNat ≤ 10000 := by
        have q : ∀ k : Nat, k ≤ 4 → (10 : Int) ^ k ≤ 10000 := by decide
        exact q _ (by omega)
      rw [w.2.2.1 404 (by decide), hT j (by omega) c0, u]
      have ea := nvA_app (T := T) (j - a).toNat a 0
      rw [show a + (((j - a).toNat : Nat) : Int) = j by omega] at ea
      show w32 (w32 (w32 (10 * nvA T (j - a).toNat a 0) + T j) - 48) = nvA T (j + 1 - a).toNat a 0
      rw [show (j + 1 - a).toNat = (j - a).toNat + 1 by omega, ea, w32_i (x := 10 * nvA T (j - a).toNat a 0) (by omega), w32_i (x := 10 * nvA T (j - a).toNat a 0 + T j) (by omega), w32_i (by omega)]
    · refine zWp_nt c3 ?_
      rw [el_R_ahead_282]
      exact zWp_nt c3 (nx h (w.ov (by omega)))
