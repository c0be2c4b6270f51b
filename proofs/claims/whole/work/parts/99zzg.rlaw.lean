/-! the reference reckons -/
def FcR (E : Int → Int) (h : zH) : Prop := ∀ i, 1 ≤ i → i ≤ 5 → h 443 i = E (-i)
def frRr (h h' : zH) : Prop := ∀ r, ¬ r = 442 → h' r = h r
theorem q_R_rk {d : Nat} {E : Int → Int} {B v : Int} (hB : B = 0 ∨ B = 1) : ∀ (X : List Int) (i : Nat) (S : List Int) (h : zH), h 403 12 = B → SkH h 442 S → FcR E h → (∀ (j : Nat) (x : Int), X[j]? = some x → CR x (h 433 (1600 * B + ((i + j : Nat) : Int))) (h 434 (1600 * B + ((i + j : Nat) : Int)))) → i + X.length ≤ 1600 → S.length ≤ 1600 → exA E 1600 X S = some [v] → zWp (l_R_reckons_14 (d + 2) ((i + X.length : Nat) : Int) (S.length : Int) (1600 * B + (i : Int)) h) (fun x h' => x = .inr (.inl v) ∧ frRr h h') := by
  intro X
  induction X with
  | nil =>
    intro i S h e12 sk fc hx hi hS e
    rw [exA] at e
    have eS := Option.some.inj e
    rw [eS] at sk
    have s0 : h 442 0 = v := sk.1
    rw [el_R_reckons_14, e12, w32_i (x := 1600 * B) (by omega), w32_i (x := 1600 * B + ((i + ([] : List Int).length : Nat) : Int)) (by show _ ∧ 1600 * B + ((i + 0 : Nat) : Int) < _; omega), s0]
    exact zWp_nt (by show ¬ 1600 * B + (i : Int) < 1600 * B + ((i + 0 : Nat) : Int); omega) (zWp_it (by decide) (zWp_s ⟨rfl, fun _ _ => rfl⟩))
  | cons c X ih =>
    intro i S h e12 sk fc hx hi hS e
    have el : (c :: X).length = X.length + 1 := rfl
    rw [exA] at e
    cases hs : stk1 E c S with
    | none => rw [hs] at e; cases e
    | some S1 =>
      rw [hs] at e
      dsimp only at e
      by_cases z : S1.length ≤ 1600
      case neg => rw [if_neg z] at e; cases e
      rw [if_pos z] at e
      have cr := hx 0 c rfl
      have i0 : ((i + 0 : Nat) : Int) = (i : Int) := rfl
      rw [i0] at cr
      have go : ∀ h1, frRr h h1 → SkH h1 442 S1 → zWp (l_R_reckons_14 (d + 2) ((i + (c :: X).length : Nat) : Int) (S1.length : Int) (w32 (1600 * B + (i : Int) + 1)) h1) (fun x h' => x = .inr (.inl v) ∧ frRr h h') := by
        intro h1 f1 sk1
        rw [w32_i (x := 1600 * B + (i : Int) + 1) (by omega), show 1600 * B + (i : Int) + 1 = 1600 * B + ((i + 1 : Nat) : Int) by omega, show i + (c :: X).length = i + 1 + X.length by omega]
        refine zWp_m (ih (i + 1) S1 h1 (by rw [f1 403 (by decide)]; exact e12) sk1 (fun j j1 j2 => by rw [f1 443 (by decide)]; exact fc j j1 j2) (fun j x hj => ?_) (by omega) z e) (fun x h2 u => ⟨u.1, fun r hr => (u.2 r hr).trans (f1 r hr)⟩)
        rw [f1 433 (by decide), f1 434 (by decide), show i + 1 + j = i + (j + 1) by omega]
        exact hx (j + 1) x hj
      have push : ∀ y h1, S1 = y :: S → h1 = zset h 442 (S.length : Int) y → zWp (l_R_reckons_14 (d + 2) ((i + (c :: X).length : Nat) : Int) (w32 ((S.length : Int) + 1)) (w32 (1600 * B + (i : Int) + 1)) h1) (fun x h' => x = .inr (.inl v) ∧ frRr h h') := by
        intro y h1 e1 eh
        have g := go h1 (fun r hr => by rw [eh, zset_n hr]) (by rw [e1]; exact ⟨by rw [eh, zset_e], sk.fr (fun j _ j2 => by rw [eh, zset_j (by omega)])⟩)
        rw [w32_i (x := (S.length : Int) + 1) (by omega)]
        rw [e1] at g
        exact g
      rw [el_R_reckons_14, e12, w32_i (x := 1600 * B) (by omega), w32_i (x := 1600 * B + ((i + (c :: X).length : Nat) : Int)) (by omega)]
      refine zWp_it (by omega) (zWp_it (by omega) ?_)
      rcases cr with ⟨k1, k2, k3⟩ | ⟨k1, k2⟩ | ⟨k1, k2, k3⟩ | ⟨k1, k2⟩
      · have eS : S1 = c :: S := by
          rcases stk_i hs with ⟨_, q⟩ | ⟨q, _⟩ | ⟨q, _⟩ | ⟨_, q, _⟩
          · exact q
          · omega
          · omega
          · omega
        rw [k1, k2]
        exact zWp_nt (by decide) (zWp_it rfl (zWp_it (by omega) (zWp_it (by omega) (zWp_lt fun h1 e1 => push c h1 eS e1))))
      · have eS : S1 = 1 :: S := by
          rcases stk_i hs with ⟨_, q⟩ | ⟨q, _⟩ | ⟨q, _⟩ | ⟨_, q, _⟩
          · rw [q, k2]
          · omega
          · omega
          · omega
        rw [k1]
        exact zWp_nt (by decide) (zWp_nt (by decide) (zWp_it rfl (zWp_it (by omega) (zWp_lt fun h1 e1 => push 1 h1 eS e1))))
      · have eS : S1 = E c :: S := by
          rcases stk_i hs with ⟨q, _⟩ | ⟨_, _, q⟩ | ⟨q, _⟩ | ⟨_, q, _⟩
          · omega
          · exact q
          · omega
          · omega
        rw [k3, fc (-c) (by omega) (by omega), show - -c = c by omega]
        exact zWp_nt (by omega) (zWp_nt (by omega) (zWp_nt (by omega) (zWp_it (by omega) (zWp_it (by omega) (zWp_lt fun h1 e1 => push (E c) h1 eS e1)))))
      · rw [k2]
        refine zWp_it (by omega) ?_
        rcases stk_i hs with ⟨q, _⟩ | ⟨_, q, _⟩ | ⟨q, a, R, e0, pa, e1⟩ | ⟨q1, q2, a, b, R, e0, pa, pb, pl, e1⟩
        · omega
        · omega
        · have sk' := sk
          rw [e0] at sk'
          have eL : (S.length : Int) = (R.length : Int) + 1 := by rw [e0]; rfl
          have t0 : h 442 (R.length : Int) = a := sk'.1
          rw [eL, w32_i (x := (R.length : Int) + 1 - 1) (by omega), show (R.length : Int) + 1 - 1 = (R.length : Int) by omega, t0, w64_i (x := 1 - a) (by unfold p01 at pa; omega)]
          refine zWp_it (by omega) (zWp_it (by omega) (zWp_it (by omega) (zWp_lt fun h1 eh => ?_)))
          have g := go h1 (fun r hr => by rw [eh, zset_n hr]) (by rw [e1]; exact ⟨by rw [eh, zset_e], sk'.2.fr (fun j _ j2 => by rw [eh, zset_j (by omega)])⟩)
          rw [e1] at g
          exact g
        · have sk' := sk
          rw [e0] at sk'
          have eL : (S.length : Int) = (R.length : Int) + 1 + 1 := by rw [e0]; rfl
          have t0 : h 442 ((R.length : Int) + 1) = b := sk'.1
          have t1 : h 442 (R.length : Int) = a := sk'.2.1
          rw [eL, w32_i (x := (R.length : Int) + 1 + 1 + -1) (by omega), show (R.length : Int) + 1 + 1 + -1 = (R.length : Int) + 1 by omega, w32_i (x := (R.length : Int) + 1 - 1) (by omega), show (R.length : Int) + 1 - 1 = (R.length : Int) by omega, t0, t1]
          refine zWp_nt (by omega) (zWp_it (by omega) (zWp_it (by omega) (zWp_ql (q_R_made ⟨q1, q2⟩ pa pb) (zWp_it (by omega) (zWp_lt fun h1 eh => ?_)))))
          have g := go h1 (fun r hr => by rw [eh, zset_n hr]) (by rw [e1]; exact ⟨by rw [eh, zset_e], sk'.2.2.fr (fun j _ j2 => by rw [eh, zset_j (by omega)])⟩)
          rw [e1] at g
          exact g
def LwR (B : Int) (j : Int) (l : zL4) (h : zH) : Prop := ∃ P : Nat, h 430 (8 * B + j) = (P : Int) ∧ h 431 (8 * B + j) = ((P + l.2.2.1.length : Nat) : Int) ∧ h 432 (8 * B + j) = ((P + l.2.2.1.length + l.2.2.2.length : Nat) : Int) ∧ (∀ (i : Nat) (x : Int), (l.2.2.1 ++ l.2.2.2)[i]? = some x → CR x (h 433 (1600 * B + ((P + i : Nat) : Int))) (h 434 (1600 * B + ((P + i : Nat) : Int)))) ∧ P + l.2.2.1.length + l.2.2.2.length ≤ 1600
def BkR (L : List zL4) (B : Int) (h : zH) : Prop := h 429 B = (L.length : Int) ∧ L.length ≤ 8 ∧ ∀ (j : Nat) (l : zL4), L[j]? = some l → LwR B (j : Int) l h
theorem LwR.fr {B j : Int} {l : zL4} {h h' : zH} (c : LwR B j l h) (e : ∀ r, 430 ≤ r → r ≤ 434 → h' r = h r) : LwR B j l h' := by
  unfold LwR at c ⊢
  rw [e 430 (by decide) (by decide), e 431 (by decide) (by decide), e 432 (by decide) (by decide), e 433 (by decide) (by decide), e 434 (by decide) (by decide)]
  exact c
/-- a law is where its bank is -/
theorem LwR.fl {B j : Int} {l : zL4} {h h' : zH} (c : LwR B j l h) (hj : 0 ≤ j ∧ j < 8) (e : ∀ r i, 429 ≤ r → r ≤ 434 → inB B r i → h' r i = h r i) : LwR B j l h' := by
  obtain ⟨P, a1, a2, a3, a4, a5⟩ := c
  have g : ∀ r, 430 ≤ r → r ≤ 432 → h' r (8 * B + j) = h r (8 * B + j) := fun r r1 r2 => e r _ (by omega) (by omega) ⟨fun z => by omega, fun _ _ => by omega, fun z => by omega⟩
  refine ⟨P, by rw [g 430 (by decide) (by decide)]; exact a1, by rw [g 431 (by decide) (by decide)]; exact a2, by rw [g 432 (by decide) (by decide)]; exact a3, fun i x hx => ?_, a5⟩
  have hl := (List.getElem?_eq_some_iff.1 hx).1
  rw [List.length_append] at hl
  have k : ∀ r, 433 ≤ r → r ≤ 434 → h' r (1600 * B + ((P + i : Nat) : Int)) = h r (1600 * B + ((P + i : Nat) : Int)) := fun r r1 r2 => e r _ (by omega) (by omega) ⟨fun z => by omega, fun _ _ => by omega, fun _ => by omega⟩
  rw [k 433 (by decide) (by decide), k 434 (by decide) (by decide)]
  exact a4 i x hx
theorem q_R_rks {d : Nat} {E : Int → Int} {B v : Int} {X : List Int} {i : Nat} {h : zH} (hB : B = 0 ∨ B = 1) (e12 : h 403 12 = B) (fc : FcR E h) (hx : ∀ (j : Nat) (x : Int), X[j]? = some x → CR x (h 433 (1600 * B + ((i + j : Nat) : Int))) (h 434 (1600 * B + ((i + j : Nat) : Int)))) (hi : i + X.length ≤ 1600) (e : exA E 1600 X [] = some [v]) : zWp (m_R_reckons (d + 3) (i : Int) ((i + X.length : Nat) : Int) h) (fun x h' => x = .inr (.inl v) ∧ frRr h h') := by
  rw [em_R_reckons, e12, w32_i (x := 1600 * B) (by omega), w32_i (x := 1600 * B + (i : Int)) (by omega)]
  exact q_R_rk (d := d) hB X i [] h e12 True.intro fc hx hi (Nat.zero_le _) e
theorem q_R_lfor {d : Nat} {E : Int → Int} {B : Int} (hB : B = 0 ∨ B = 1) (ok : EOk E) : ∀ (L : List zL4) (j : Nat) (h : zH), LOk L → h 403 12 = B → FcR E h → h 429 B = ((j + L.length : Nat) : Int) → j + L.length ≤ 8 → (∀ (i : Nat) (l : zL4), L[i]? = some l → LwR B ((j + i : Nat) : Int) l h) → zWp (l_R_lawOf_46 (d + 3) (8 * B + (j : Int)) h) (fun v h' => v = .inl (lwV E L) ∧ frRr h h') := by
  intro L
  induction L with
  | nil =>
    intro j h _ e12 fc e5 hj _
    have e5' : h 429 B = ((j + 0 : Nat) : Int) := e5
    rw [el_R_lawOf_46, e12, e5', w32_i (x := 8 * B) (by omega), w32_i (x := 8 * B + ((j + 0 : Nat) : Int)) (by omega)]
    exact zWp_it (by omega) (zWp_nt (by omega) (zWp_s ⟨rfl, fun _ _ => rfl⟩))
  | cons l L ih =>
    intro j h lo e12 fc e5 hj hl
    have el : (l :: L).length = L.length + 1 := rfl
    obtain ⟨P, a1, a2, a3, a4, a5⟩ := hl 0 l rfl
    have vs := (lo l (List.mem_cons_self ..)).1 E ok
    have vt := (lo l (List.mem_cons_self ..)).2 E ok
    obtain ⟨v, pv, xs, ys⟩ := vs
    obtain ⟨w, pw, xt, yt⟩ := vt
    have ys' := ys [] 1600 (by decide)
    have yt' := yt [] 1600 (by decide)
    have j0 : ((j + 0 : Nat) : Int) = (j : Int) := rfl
    rw [j0] at a1 a2 a3
    rw [el_R_lawOf_46, e12, e5, w32_i (x := 8 * B) (by omega), w32_i (x := 8 * B + ((j + (l :: L).length : Nat) : Int)) (by omega), a2, a3]
    rw [lwV, vl_e (xt [] 64 (by decide)), vl_e (xs [] 64 (by decide))]
    refine zWp_it (by omega) (zWp_it (by omega) (zWp_it (by omega) (zWp_it (by omega) ?_)))
    obtain ⟨x1, h1, ex1, u1, u2⟩ := q_R_rks (d := d) (X := l.2.2.2) (i := P + l.2.2.1.length) hB e12 fc (fun i x hx => by
      have := a4 (l.2.2.1.length + i) x (by rw [List.getElem?_append_right (by omega), show l.2.2.1.length + i - l.2.2.1.length = i by omega]; exact hx)
      rw [show P + l.2.2.1.length + i = P + (l.2.2.1.length + i) by omega]
      exact this) a5 yt'
    rw [u1] at ex1
    refine zWp_ql ex1 ?_
    have fc1 : FcR E h1 := fun i i1 i2 => by rw [u2 443 (by decide)]; exact fc i i1 i2
    by_cases z : w = 0
    · rw [if_pos (c := w = 0) (t := lwV E L) z, w32_i (x := 8 * B + (j : Int) + 1) (by omega), show 8 * B + (j : Int) + 1 = 8 * B + ((j + 1 : Nat) : Int) by omega]
      refine zWp_it (by rw [zlc_0]; exact z) (zWp_m (ih (j + 1) h1 (fun x hx => lo x (List.mem_cons_of_mem _ hx)) (by rw [u2 403 (by decide)]; exact e12) fc1 (by rw [u2 429 (by decide), e5, el]; omega) (by omega) (fun i x hx => ?_)) (fun v h2 k => ⟨k.1, fun r hr => (k.2 r hr).trans (u2 r hr)⟩))
      rw [show j + 1 + i = j + (i + 1) by omega]
      exact (hl (i + 1) x hx).fr (fun r r1 r2 => u2 r (by omega))
    · rw [if_neg (c := w = 0) (t := lwV E L) z]
      refine zWp_nt (by rw [zlc_0]; exact z) (zWp_it (by omega) (zWp_it (by omega) ?_))
      rw [u2 430 (by decide), u2 431 (by decide), a1, a2]
      obtain ⟨x2, h2, ex2, w1, w2⟩ := q_R_rks (d := d) (X := l.2.2.1) (i := P) hB (show h1 403 12 = B by rw [u2 403 (by decide)]; exact e12) fc1 (fun i x hx => by
        rw [u2 433 (by decide), u2 434 (by decide)]
        exact a4 i x (by rw [List.getElem?_append_left (List.getElem?_eq_some_iff.1 hx).1]; exact hx)) (by omega) ys'
      rw [w1] at ex2
      refine zWp_ql ex2 ?_
      have fr : frRr h h2 := fun r hr => (w2 r hr).trans (u2 r hr)
      unfold cuV
      by_cases y1 : v < 0
      · exact zWp_it (by rw [zlc_m]; exact y1) (zWp_s ⟨by rw [if_pos y1], fr⟩)
      refine zWp_nt (by rw [zlc_m]; exact y1) ?_
      by_cases y2 : 9999 < v
      · exact zWp_it (by rw [zlc_p]; exact y2) (zWp_s ⟨by rw [if_neg y1, if_pos y2], fr⟩)
      · exact zWp_nt (by rw [zlc_p]; exact y2) (zWp_s ⟨by rw [if_neg y1, if_neg y2, w32_i (by omega)], fr⟩)
theorem law_R {L : List zL4} {h : zH} (hB : h 403 12 = 0 ∨ h 403 12 = 1) (lo : LOk L) (bk : BkR L (h 403 12) h) (d : Nat) : LawR (lwF L) (d + 8) h := by
  intro h2 hb hr x1 x2 x3 x4 x5 k1 k2 k3 k4 k5
  refine ⟨lw_b L, ?_⟩
  rw [em_R_lawOf]
  refine zWp_it (by decide) (zWp_lt fun h3 e3 => zWp_it (by decide) (zWp_lt fun h4 e4 => zWp_it (by decide) (zWp_lt fun h5 e5 => zWp_it (by decide) (zWp_lt fun h6 e6 => zWp_it (by decide) (zWp_lt fun h7 e7 => ?_)))))
  have r7 : ∀ r, r ≠ 443 → h7 r = h2 r := fun r hr => by rw [e7, zset_n hr, e6, zset_n hr, e5, zset_n hr, e4, zset_n hr, e3, zset_n hr]
  have fc : FcR (enE x1 x2 x3 x4 x5) h7 := by
    intro i i1 i2
    unfold enE
    rcases (show i = 1 ∨ i = 2 ∨ i = 3 ∨ i = 4 ∨ i = 5 by omega) with z | z | z | z | z <;> rw [z]
    · rw [e7, zset_j (by decide), e6, zset_j (by decide), e5, zset_j (by decide), e4, zset_j (by decide), e3, zset_e]; rfl
    · rw [e7, zset_j (by decide), e6, zset_j (by decide), e5, zset_j (by decide), e4, zset_e]; rfl
    · rw [e7, zset_j (by decide), e6, zset_j (by decide), e5, zset_e]; rfl
    · rw [e7, zset_j (by decide), e6, zset_e]; rfl
    · rw [e7, zset_e]; rfl
  have e12 : h7 403 12 = h 403 12 := by rw [r7 403 (by decide)]; exact hb
  have q := q_R_lfor (d := d + 4) hB (en_ok k1 k2 k3 k4 k5) L 0 h7 lo e12 fc (by rw [r7 429 (by decide), hr 429 (h 403 12) (by decide) (by decide) ⟨fun _ => rfl, fun w => absurd w (by decide), fun w => absurd w (by decide)⟩, bk.1, Nat.zero_add]) (by rw [Nat.zero_add]; exact bk.2.1) (fun i l hi => by
    rw [Nat.zero_add]
    have hlt := (List.getElem?_eq_some_iff.1 hi).1
    have h8 := bk.2.1
    exact (bk.2.2 i l hi).fl (by omega) (fun r i r1 r2 x => by rw [r7 r (by omega)]; exact hr r i r1 r2 x))
  rw [e12, w32_i (x := 8 * h 403 12) (by omega)]
  rw [show 8 * h 403 12 + ((0 : Nat) : Int) = 8 * h 403 12 by omega] at q
  exact zWp_m q (fun v h8 u => ⟨u.1, fun r hr => by rw [u.2 r (by omega), r7 r (by omega)]⟩)
