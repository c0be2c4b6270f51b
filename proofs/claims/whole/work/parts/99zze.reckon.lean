/-! the class reckons -/
def SkH (h : zH) (r : Int) : List Int → Prop
  | [] => True
  | v :: S => h r (S.length : Int) = v ∧ SkH h r S
theorem SkH.fr {h h' : zH} {r : Int} : ∀ {S : List Int}, SkH h r S → (∀ i : Int, 0 ≤ i → i < (S.length : Int) → h' r i = h r i) → SkH h' r S
  | [], _, _ => True.intro
  | v :: S, c, e => by
    have el : (v :: S).length = S.length + 1 := rfl
    refine ⟨by rw [e _ (by omega) (by omega)]; exact c.1, SkH.fr c.2 (fun i i1 i2 => e i i1 (by omega))⟩
/-- what a step of the stack says -/
theorem stk_i {E : Int → Int} {c : Int} {S S' : List Int} (h : stk1 E c S = some S') : (0 ≤ c ∧ S' = c :: S) ∨ (c < 0 ∧ -5 ≤ c ∧ S' = E c :: S) ∨ (c = -18 ∧ ∃ a R, S = a :: R ∧ p01 a ∧ S' = (1 - a) :: R) ∨ (-17 ≤ c ∧ c ≤ -6 ∧ ∃ a b R, S = b :: a :: R ∧ pM a ∧ pM b ∧ (c = -16 ∨ c = -17 → p01 a ∧ p01 b) ∧ S' = mkA c a b :: R) := by
  unfold stk1 at h
  by_cases c1 : 0 ≤ c
  · rw [if_pos c1] at h
    exact Or.inl ⟨c1, (Option.some.inj h).symm⟩
  rw [if_neg c1] at h
  by_cases c2 : -5 ≤ c
  · rw [if_pos c2] at h
    exact Or.inr (Or.inl ⟨by omega, c2, (Option.some.inj h).symm⟩)
  rw [if_neg c2] at h
  by_cases c3 : c = -18
  · rw [if_pos c3] at h
    cases S with
    | nil => cases h
    | cons a R =>
      dsimp only at h
      by_cases z : a = 0 ∨ a = 1
      · rw [if_pos z] at h
        exact Or.inr (Or.inr (Or.inl ⟨c3, a, R, rfl, z, (Option.some.inj h).symm⟩))
      · rw [if_neg z] at h; cases h
  rw [if_neg c3] at h
  cases S with
  | nil => cases h
  | cons b S1 =>
    cases S1 with
    | nil => cases h
    | cons a R =>
      dsimp only at h
      by_cases z : c = -16 ∨ c = -17
      · rw [if_pos z] at h
        by_cases y : (a = 0 ∨ a = 1) ∧ (b = 0 ∨ b = 1)
        · rw [if_pos y] at h
          exact Or.inr (Or.inr (Or.inr ⟨by omega, by omega, a, b, R, rfl, ⟨by omega, by omega⟩, ⟨by omega, by omega⟩, fun _ => y, (Option.some.inj h).symm⟩))
        · rw [if_neg y] at h; cases h
      · rw [if_neg z] at h
        by_cases y : -15 ≤ c ∧ -1000000 ≤ a ∧ a ≤ 1000000 ∧ -1000000 ≤ b ∧ b ≤ 1000000
        · rw [if_pos y] at h
          exact Or.inr (Or.inr (Or.inr ⟨by omega, by omega, a, b, R, rfl, ⟨y.2.1, y.2.2.1⟩, ⟨y.2.2.2.1, y.2.2.2.2⟩, fun w => absurd w z, (Option.some.inj h).symm⟩))
        · rw [if_neg y] at h; cases h
def StC (b : Int) (S : List Int) (h : zH) : Prop := h (b + 21) 8 = (S.length : Int) ∧ SkH h (b + 27) S
def frRk (b : Int) (h h' : zH) : Prop := (∀ r, ¬ (r = b + 21 ∨ r = b + 27) → h' r = h r) ∧ ∀ q, ¬ q = 8 → h' (b + 21) q = h (b + 21) q
theorem frRk.rf (b : Int) (h : zH) : frRk b h h := ⟨fun _ _ => rfl, fun _ _ => rfl⟩
theorem frRk.t {b : Int} {x y z : zH} (h1 : frRk b x y) (h2 : frRk b y z) : frRk b x z := ⟨fun r hr => (h2.1 r hr).trans (h1.1 r hr), fun q hq => (h2.2 q hq).trans (h1.2 q hq)⟩
theorem q_lpush {d : Nat} {b v : Int} {S : List Int} {h : zH} (hb : 0 ≤ b) (c : StC b S h) (hS : S.length < 64) : zWp (m_LawBook_push (d + 1) (b + 21) v h) (fun _ h' => StC b (v :: S) h' ∧ frRk b h h') := by
  rw [em_LawBook_push, c.1, show b + 21 + 6 = b + 27 by omega]
  refine zWp_po (by omega) (zWp_it (by omega) (zWp_po (by omega) (zWp_po (by omega) (zWp_po (by omega) (zWp_it (by omega) (zWp_lt fun h1 e1 => ?_))))))
  have k1 : ∀ q, h1 (b + 21) q = h (b + 21) q := fun q => by rw [e1, zset_o (by omega)]
  rw [k1 8, c.1, w32_i (x := (S.length : Int) + 1) (by omega)]
  refine zWp_po (by omega) (zWp_po (by omega) (zWp_lt fun h2 e2 => zWp_s ⟨⟨by rw [e2, zset_e]; rfl, ?_, ?_⟩, fun r hr => by rw [e2, zset_n (by omega), e1, zset_n (by omega)], fun q hq => by rw [e2, zset_j hq, k1]⟩))
  · rw [e2, zset_o (by omega), e1, zset_e]
  · exact c.2.fr (fun i i1 i2 => by rw [e2, zset_o (by omega), e1, zset_j (by omega)])
theorem q_lpop {d : Nat} {b v : Int} {S : List Int} {h : zH} (hb : 0 ≤ b) (c : StC b (v :: S) h) (hS : S.length < 64) : zWp (m_LawBook_pop (d + 1) (b + 21) h) (fun x h' => ∃ a, x = .inl a ∧ (a = v ∧ StC b S h' ∧ frRk b h h')) := by
  have e8 : h (b + 21) 8 = (S.length : Int) + 1 := c.1
  rw [em_LawBook_pop, e8, w32_i (x := (S.length : Int) + 1 - 1) (by omega), show b + 21 + 6 = b + 27 by omega]
  refine zWp_po (by omega) (zWp_it (by omega) (zWp_po (by omega) (zWp_po (by omega) (zWp_lt fun h1 e1 => ?_))))
  have k1 : h1 (b + 21) 8 = (S.length : Int) := by rw [e1, zset_e]; omega
  have r1 : ∀ r, r ≠ b + 21 → h1 r = h r := fun r hr => by rw [e1, zset_n hr]
  rw [k1, r1 (b + 27) (by omega)]
  exact zWp_po (by omega) (zWp_po (by omega) (zWp_po (by omega) (zWp_it (by omega) (zWp_s ⟨_, rfl, c.2.1, ⟨k1, c.2.2.fr (fun i _ _ => by rw [r1 (b + 27) (by omega)])⟩, fun r hr => r1 r (by omega), fun q hq => by rw [e1, zset_j hq]⟩))))
def FcC (E : Int → Int) (b : Int) (h : zH) : Prop := ∀ i, 0 ≤ i → i < 5 → h (b + 26) i = E (-1 - i)
theorem q_lwork {d : Nat} {E : Int → Int} {b c : Int} {S S' : List Int} {h : zH} (hb : 0 ≤ b) (st : StC b S h) (fc : FcC E b h) (e : stk1 E c S = some S') (l1 : S.length ≤ 64) (l2 : S'.length ≤ 64) : zWp (m_LawBook_work (d + 4) (b + 21) c h) (fun _ h' => StC b S' h' ∧ frRk b h h') := by
  rw [em_LawBook_work]
  rcases stk_i e with ⟨z, e1⟩ | ⟨z1, z2, e1⟩ | ⟨z, a, R, e0, pa, e1⟩ | ⟨z1, z2, x, y, R, e0, px, py, pl, e1⟩
  · rw [e1] at l2 ⊢
    exact zWp_nt (by omega) (zWp_po (by omega) (zWp_bv (q_lpush hb st l2) (fun _ h1 u => zWp_s u)))
  · rw [e1] at l2 ⊢
    refine zWp_it z1 (zWp_nt (by omega) (zWp_po (by omega) (zWp_po (by omega) ?_)))
    rw [w32_i (x := -1 - c) (by omega), show b + 21 + 5 = b + 26 by omega, fc (-1 - c) (by omega) (by omega), show -1 - (-1 - c) = c by omega]
    exact zWp_it (by omega) (zWp_po (by omega) (zWp_bv (q_lpush hb st l2) (fun _ h1 u => zWp_s u)))
  · rw [e0] at st l1
    rw [e1] at l2 ⊢
    have l1' : R.length + 1 ≤ 64 := l1
    refine zWp_it (by omega) (zWp_it (by omega) (zWp_it z (zWp_po (by omega) (zWp_bi (q_lpop hb st (by omega)) (fun v h1 u => ?_)))))
    rw [u.1]
    rcases pa with y | y
    · refine zWp_it y (zWp_qi q_oneIf (zWp_po (by omega) (zWp_bv (q_lpush hb u.2.1 (by omega)) (fun _ h2 w => zWp_s ⟨?_, u.2.2.t w.2⟩))))
      rw [y]
      exact w.1
    · refine zWp_nt (by omega) (zWp_qi q_oneIf (zWp_po (by omega) (zWp_bv (q_lpush hb u.2.1 (by omega)) (fun _ h2 w => zWp_s ⟨?_, u.2.2.t w.2⟩))))
      rw [y]
      exact w.1
  · rw [e0] at st l1
    rw [e1] at l2 ⊢
    have l1' : R.length + 1 + 1 ≤ 64 := l1
    refine zWp_it (by omega) (zWp_it (by omega) (zWp_nt (by omega) (zWp_po (by omega) (zWp_bi (q_lpop hb st (by show R.length + 1 < 64; omega)) (fun v h1 u => zWp_po (by omega) (zWp_bi (q_lpop hb u.2.1 (by omega)) (fun v2 h2 u2 => ?_)))))))
    rw [u.1, u2.1]
    exact zWp_qi (q_join ⟨z1, z2⟩ px py pl) (zWp_po (by omega) (zWp_bv (q_lpush hb u2.2.1 (by omega)) (fun _ h3 w => zWp_s ⟨w.1, (u.2.2.t u2.2.2).t w.2⟩)))
theorem q_lrk {d : Nat} {E : Int → Int} {b v : Int} (hb : 0 ≤ b) : ∀ (X : List Int) (i : Nat) (S : List Int) (h : zH), StC b S h → FcC E b h → (∀ (j : Nat) (x : Int), X[j]? = some x → h (b + 22) ((i + j : Nat) : Int) = x) → i + X.length ≤ 1600 → S.length ≤ 64 → exA E 64 X S = some [v] → zWp (l_LawBook_reckon_7 (d + 4) (b + 21) ((i + X.length : Nat) : Int) (i : Int) h) (fun x h' => ∃ a, x = .inl a ∧ (a = v ∧ frRk b h h')) := by
  intro X
  induction X with
  | nil =>
    intro i S h st fc hx hi hS e
    rw [exA] at e
    have eS := Option.some.inj e
    rw [eS] at st
    rw [el_LawBook_reckon_7]
    exact zWp_nt (by show ¬ (i : Int) < ((i + 0 : Nat) : Int); omega) (zWp_po (by omega) (zWp_bi (q_lpop hb st (by decide)) (fun a h1 u => zWp_s ⟨a, rfl, u.1, u.2.2⟩)))
  | cons c X ih =>
    intro i S h st fc hx hi hS e
    rw [exA] at e
    have el : (c :: X).length = X.length + 1 := rfl
    cases hs : stk1 E c S with
    | none => rw [hs] at e; cases e
    | some S1 =>
      rw [hs] at e
      dsimp only at e
      by_cases z : S1.length ≤ 64
      case neg => rw [if_neg z] at e; cases e
      rw [if_pos z] at e
      have h0 := hx 0 c rfl
      rw [el_LawBook_reckon_7, show b + 21 + 1 = b + 22 by omega, show (i : Int) = ((i + 0 : Nat) : Int) from rfl, h0]
      refine zWp_it (by omega) (zWp_it (by omega) (zWp_po (by omega) (zWp_po (by omega) (zWp_it (by omega) (zWp_po (by omega) (zWp_bv (q_lwork (d := d) hb st fc hs hS z) (fun _ h1 u => ?_)))))))
      rw [w32_i (x := ((i + 0 : Nat) : Int) + 1) (by omega), show ((i + 0 : Nat) : Int) + 1 = ((i + 1 : Nat) : Int) from rfl, show i + (c :: X).length = i + 1 + X.length by omega]
      refine zWp_m (ih (i + 1) S1 h1 u.1 (fun j j1 j2 => by rw [u.2.1 (b + 26) (by omega)]; exact fc j j1 j2) (fun j x hj => ?_) (by omega) z e) (fun x h2 ⟨a, e1, e2, f2⟩ => ⟨a, e1, e2, u.2.t f2⟩)
      rw [u.2.1 (b + 22) (by omega), show i + 1 + j = i + (j + 1) by omega]
      exact hx (j + 1) x hj
theorem q_lreck {d : Nat} {E : Int → Int} {b v : Int} {X : List Int} {i : Nat} {h : zH} (hb : 0 ≤ b) (fc : FcC E b h) (hx : ∀ (j : Nat) (x : Int), X[j]? = some x → h (b + 22) ((i + j : Nat) : Int) = x) (hi : i + X.length ≤ 1600) (e : exA E 64 X [] = some [v]) : zWp (m_LawBook_reckon (d + 5) (b + 21) (i : Int) ((i + X.length : Nat) : Int) h) (fun x h' => ∃ a, x = .inl a ∧ (a = v ∧ frRk b h h')) := by
  rw [em_LawBook_reckon]
  refine zWp_po (by omega) (zWp_lt fun h1 e1 => ?_)
  have r1 : ∀ r, r ≠ b + 21 → h1 r = h r := fun r hr => by rw [e1, zset_n hr]
  refine zWp_m (q_lrk (d := d) (v := v) hb X i [] h1 ⟨by rw [e1, zset_e]; rfl, True.intro⟩ (fun j j1 j2 => by rw [r1 (b + 26) (by omega)]; exact fc j j1 j2) (fun j x hj => by rw [r1 (b + 22) (by omega)]; exact hx j x hj) hi (Nat.zero_le _) e) (fun x h2 ⟨a, e3, e4, f⟩ => ⟨a, e3, e4, frRk.t ⟨fun r hr => r1 r (by omega), fun q hq => by rw [e1, zset_j hq]⟩ f⟩)
