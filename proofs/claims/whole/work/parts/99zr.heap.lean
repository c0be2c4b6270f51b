/-! the machine of the reference on the heap: codes, frames, what is held back -/
def CR (x a b : Int) : Prop := (a = 0 ∧ b = x ∧ 0 ≤ x) ∨ (a = 9 ∧ x = 1) ∨ (x < 0 ∧ -5 ≤ x ∧ a = -x) ∨ (x ≤ -6 ∧ a = 4 - x)
def CoR (C : List Int) (h : zH) : Prop := (h 403 44 = 0 ∨ h 403 44 = 1) ∧ h 403 43 = C.length ∧ ∀ (j : Nat) (x : Int), C[j]? = some x → CR x (h 433 (1600 * h 403 44 + j)) (h 434 (1600 * h 403 44 + j))
def frLr (h h' : zH) : Prop := (∀ r, ¬ (r = 403 ∨ 433 ≤ r ∧ r ≤ 440) → h' r = h r) ∧ (∀ q, ¬ (3 ≤ q ∧ q ≤ 9 ∨ q = 43 ∨ 50 ≤ q ∧ q ≤ 54) → h' 403 q = h 403 q) ∧ ∀ r i, r = 433 ∨ r = 434 → ¬ (1600 * h 403 44 ≤ i ∧ i < 1600 * h 403 44 + 1600) → h' r i = h r i
theorem frLr.rf (h : zH) : frLr h h := ⟨fun _ _ => rfl, fun _ _ => rfl, fun _ _ _ _ => rfl⟩
theorem frLr.t {a b c : zH} (h1 : frLr a b) (h2 : frLr b c) : frLr a c := ⟨fun r x => (h2.1 r x).trans (h1.1 r x), fun q x => (h2.2.1 q x).trans (h1.2.1 q x), fun r i x y => (h2.2.2 r i x (by rw [h1.2.1 44 (by decide)]; exact y)).trans (h1.2.2 r i x y)⟩
theorem frE.lr {h h' : zH} (f : frE h h') : frLr h h' := ⟨fun r x => f.1 r (by omega), fun q x => f.2 q (by omega), fun r i x _ => by rw [f.1 r (by omega)]⟩
theorem CoR.fr {C : List Int} {h h' : zH} (c : CoR C h) (e1 : h' 403 43 = h 403 43) (e2 : h' 403 44 = h 403 44) (e3 : h' 433 = h 433) (e4 : h' 434 = h 434) : CoR C h' := by
  unfold CoR at c ⊢
  rw [e1, e2, e3, e4]
  exact c
theorem q_R_addC {d : Nat} {C : List Int} {x a b : Int} {h : zH} (c : CoR C h) (hC : C.length < 1600) (cr : CR x a b) : zWp (m_R_add (d + 1) a b h) (fun _ h' => CoR (putA C x) h' ∧ (∀ r, ¬ (r = 403 ∨ r = 433 ∨ r = 434) → h' r = h r) ∧ (∀ q, ¬ q = 43 → h' 403 q = h 403 q) ∧ frLr h h') := by
  obtain ⟨c1, c2, c3⟩ := c
  have h0 : 0 ≤ (C.length : Int) := Int.natCast_nonneg _
  rw [em_R_add, w32_i (x := 1600 * h 403 44) (by omega), w32_i (x := 1600 * h 403 44 + h 403 43) (by omega)]
  refine zWp_it (by omega) (zWp_lt fun h1 e1 => ?_)
  have k1 : ∀ q, h1 403 q = h 403 q := fun q => by rw [e1, zset_o (by decide)]
  rw [k1 44, k1 43, w32_i (x := 1600 * h 403 44) (by omega), w32_i (x := 1600 * h 403 44 + h 403 43) (by omega)]
  refine zWp_it (by omega) (zWp_lt fun h2 e2 => ?_)
  have k2 : ∀ q, h2 403 q = h 403 q := fun q => by rw [e2, zset_o (by decide)]; exact k1 q
  rw [k2 43, w32_i (x := h 403 43 + 1) (by omega)]
  refine zWp_lt fun h3 e3 => zWp_s ?_
  have k3 : ∀ q, ¬ q = 43 → h3 403 q = h 403 q := fun q hq => by rw [e3, zset_j hq]; exact k2 q
  have g1 : ∀ i, h3 433 i = if i = 1600 * h 403 44 + h 403 43 then a else h 433 i := fun i => by rw [e3, zset_o (by decide), e2, zset_o (by decide), e1, zset_g]
  have g2 : ∀ i, h3 434 i = if i = 1600 * h 403 44 + h 403 43 then b else h 434 i := fun i => by rw [e3, zset_o (by decide), e2, zset_g, e1, zset_o (by decide)]
  have rr : ∀ r, ¬ (r = 403 ∨ r = 433 ∨ r = 434) → h3 r = h r := fun r hr => by rw [e3, zset_n (by omega), e2, zset_n (by omega), e1, zset_n (by omega)]
  refine ⟨⟨by rw [k3 44 (by decide)]; exact c1, ?_, fun j y hj => ?_⟩, rr, k3, fun r hr => rr r (by omega), fun q hq => k3 q (by omega), fun r i hr hi => ?_⟩
  · unfold putA
    rw [if_pos hC, List.length_append, e3, zset_e, c2]
    rfl
  · unfold putA at hj
    rw [if_pos hC] at hj
    rw [k3 44 (by decide), g1, g2]
    by_cases z : j = C.length
    · rw [z, List.getElem?_append_right (Nat.le_refl _), Nat.sub_self] at hj
      have ey : x = y := Option.some.inj hj
      rw [if_pos (by omega), if_pos (by omega), ← ey]
      exact cr
    · have hlt : j < (C ++ [x]).length := (List.getElem?_eq_some_iff.1 hj).1
      rw [List.length_append] at hlt
      have hlt' : j < C.length + 1 := hlt
      rw [List.getElem?_append_left (show j < C.length by omega)] at hj
      rw [if_neg (by omega), if_neg (by omega)]
      exact c3 j y hj
  · rcases hr with hr | hr
    · rw [hr, g1, if_neg (by omega)]
    · rw [hr, g2, if_neg (by omega)]
def opsN : List zFr → Nat
  | [] => 0
  | f :: R => f.2.2.2.2.length + opsN R
def OpH (h : zH) (b : Int) : List Int → Prop
  | [] => True
  | o :: O => h 440 (b + O.length) = 4 - o ∧ OpH h b O
def FrH (h : zH) : List zFr → Prop
  | [] => True
  | f :: R => (h 435 R.length = f.1 ∧ h 436 R.length = f.2.1 ∧ h 437 R.length = f.2.2.1 ∧ (f.1 = 3 ∨ f.1 = 4 → h 438 R.length = 4 - f.2.2.2.1) ∧ h 439 R.length = opsN R) ∧ OpH h (opsN R) f.2.2.2.2 ∧ FrH h R
theorem OpH.fr {h h' : zH} {b : Int} : ∀ {O : List Int}, OpH h b O → (∀ i, b ≤ i → i < b + O.length → h' 440 i = h 440 i) → OpH h' b O
  | [], _, _ => True.intro
  | o :: O, c, e => by
    refine ⟨?_, OpH.fr c.2 (fun i i1 i2 => e i i1 (by rw [List.length_cons]; omega))⟩
    rw [e _ (by omega) (by rw [List.length_cons]; omega)]
    exact c.1
theorem FrH.fr {h h' : zH} : ∀ {F : List zFr}, FrH h F → (∀ r i : Int, 435 ≤ r → r ≤ 439 → 0 ≤ i → i < (F.length : Int) → h' r i = h r i) → (∀ i : Int, 0 ≤ i → i < (opsN F : Int) → h' 440 i = h 440 i) → FrH h' F
  | [], _, _, _ => True.intro
  | f :: R, c, e, e4 => by
    have el : (f :: R).length = R.length + 1 := rfl
    have eo : opsN (f :: R) = f.2.2.2.2.length + opsN R := rfl
    refine ⟨?_, c.2.1.fr (fun i i1 i2 => e4 i (by omega) (by omega)), c.2.2.fr (fun r i r1 r2 i1 i2 => e r i r1 r2 i1 (by omega)) (fun i i1 i2 => e4 i i1 (by omega))⟩
    rw [e 435 _ (by decide) (by decide) (by omega) (by omega), e 436 _ (by decide) (by decide) (by omega) (by omega), e 437 _ (by decide) (by decide) (by omega) (by omega), e 438 _ (by decide) (by decide) (by omega) (by omega), e 439 _ (by decide) (by decide) (by omega) (by omega)]
    exact c.1
def HF (F : List zFr) (h : zH) : Prop := h 403 50 = F.length ∧ h 403 53 = opsN F ∧ FrH h F
theorem HF.fr {F : List zFr} {h h' : zH} (c : HF F h) (e1 : h' 403 50 = h 403 50) (e2 : h' 403 53 = h 403 53) (e3 : ∀ r, 435 ≤ r → r ≤ 440 → h' r = h r) : HF F h' := ⟨e1.trans c.1, e2.trans c.2.1, c.2.2.fr (fun r i r1 r2 _ _ => by rw [e3 r r1 (by omega)]) (fun i _ _ => by rw [e3 440 (by decide) (by decide)])⟩
theorem q_R_rank {d : Nat} {o : Int} {h : zH} : m_R_rank (d + 1) (4 - o) h = some (.inl (rkA o), h) := by
  rw [em_R_rank]
  unfold rkA
  by_cases c1 : o = -17
  · rw [if_pos (show 4 - o = 21 by omega), if_pos c1]
  rw [if_neg (show ¬ 4 - o = 21 by omega), if_neg c1]
  by_cases c2 : o = -16
  · rw [if_pos (show 4 - o = 20 by omega), if_pos c2]
  rw [if_neg (show ¬ 4 - o = 20 by omega), if_neg c2]
  by_cases c3 : o = -18
  · rw [if_pos (show 4 - o = 22 by omega), if_pos c3]
  rw [if_neg (show ¬ 4 - o = 22 by omega), if_neg c3]
  by_cases c4 : o = -13 ∨ o = -14 ∨ o = -15
  · rw [if_pos c4]
    by_cases d1 : 4 - o = 17
    · rw [if_pos d1]
    rw [if_neg d1]
    by_cases d2 : 4 - o = 18
    · rw [if_pos d2]
    rw [if_neg d2, if_pos (show 4 - o = 19 by omega)]
  rw [if_neg (show ¬ 4 - o = 17 by omega), if_neg (show ¬ 4 - o = 18 by omega), if_neg (show ¬ 4 - o = 19 by omega), if_neg c4]
  by_cases c5 : o = -6 ∨ o = -7
  · rw [if_pos c5]
    by_cases d1 : 4 - o = 10
    · rw [if_pos d1]
    rw [if_neg d1, if_pos (show 4 - o = 11 by omega)]
  rw [if_neg (show ¬ 4 - o = 10 by omega), if_neg (show ¬ 4 - o = 11 by omega), if_neg c5]
theorem q_R_jn {d : Nat} {m kd ph bg pr : Int} {R : List zFr} (hR : R.length ≤ 18) : ∀ (O C : List Int) (h : zH), HF ((kd, ph, bg, pr, O) :: R) h → CoR C h → C.length + O.length ≤ 1600 → O.length + opsN R ≤ 500 → (∀ o ∈ O, o ≤ -6) → zWp (l_R_joins_0 (d + 1) m h) (fun _ h' => HF ((kd, ph, bg, pr, (jnA m O C).1) :: R) h' ∧ CoR (jnA m O C).2 h' ∧ frLr h h' ∧ (∀ q, ¬ (q = 43 ∨ q = 53) → h' 403 q = h 403 q)) := by
  intro O
  induction O with
  | nil =>
    intro C h hf c _ _ _
    have e50 : h 403 50 = (R.length : Int) + 1 := hf.1
    have e53 : h 403 53 = ((0 + opsN R : Nat) : Int) := hf.2.1
    have e39 : h 439 (R.length : Int) = (opsN R : Int) := hf.2.2.1.2.2.2.2
    rw [el_R_joins_0, w32_i (x := h 403 50 - 1) (by omega), show h 403 50 - 1 = (R.length : Int) by omega, e39, e53]
    exact zWp_it (by omega) (zWp_nt (by omega) (zWp_s ⟨hf, c, frLr.rf h, fun _ _ => rfl⟩))
  | cons o O ih =>
    intro C h hf c hC hO ho
    have e50 : h 403 50 = (R.length : Int) + 1 := hf.1
    have e53 : h 403 53 = ((O.length + 1 + opsN R : Nat) : Int) := hf.2.1
    have e39 : h 439 (R.length : Int) = (opsN R : Int) := hf.2.2.1.2.2.2.2
    have e40 : h 440 ((opsN R : Int) + (O.length : Int)) = 4 - o := hf.2.2.2.1.1
    rw [List.length_cons] at hC hO
    rw [el_R_joins_0, w32_i (x := h 403 50 - 1) (by omega), show h 403 50 - 1 = (R.length : Int) by omega, e39, w32_i (x := h 403 53 - 1) (by omega), show h 403 53 - 1 = (opsN R : Int) + (O.length : Int) by omega, e40]
    refine zWp_it (by omega) (zWp_it (by omega) (zWp_it (by omega) (zWp_qi q_R_rank ?_)))
    by_cases z : rkA o < m
    · have ea : jnA m (o :: O) C = (o :: O, C) := by rw [jnA, if_pos z]
      rw [ea]
      exact zWp_it z (zWp_s ⟨hf, c, frLr.rf h, fun _ _ => rfl⟩)
    · have ea : jnA m (o :: O) C = jnA m O (putA C o) := by rw [jnA, if_neg z]
      rw [ea]
      refine zWp_nt z ?_
      rw [w32_i (x := h 403 53 - 1) (by omega), show h 403 53 - 1 = (opsN R : Int) + (O.length : Int) by omega]
      refine zWp_lt fun h1 e1 => ?_
      have s1 : h1 403 53 = (opsN R : Int) + (O.length : Int) := by rw [e1, zset_e]
      have t1 : ∀ q, ¬ q = 53 → h1 403 q = h 403 q := fun q hq => by rw [e1, zset_j hq]
      have r1 : ∀ r, r ≠ 403 → h1 r = h r := fun r hr => by rw [e1, zset_n hr]
      rw [s1, r1 440 (by decide), e40]
      have c1 : CoR C h1 := c.fr (t1 43 (by decide)) (t1 44 (by decide)) (r1 433 (by decide)) (r1 434 (by decide))
      have f1 : frLr h h1 := ⟨fun r hr => r1 r (by omega), fun q hq => t1 q (by omega), fun r i hr _ => by rw [r1 r (by omega)]⟩
      refine zWp_it (by omega) (zWp_bv (q_R_addC (d := d) (x := o) c1 (by omega) (Or.inr (Or.inr (Or.inr ⟨ho o (List.mem_cons_self ..), rfl⟩)))) (fun _ h2 u => ?_))
      have hf2 : HF ((kd, ph, bg, pr, O) :: R) h2 := by
        refine ⟨by rw [u.2.2.1 50 (by decide), t1 50 (by decide)]; exact hf.1, ?_, ?_⟩
        · rw [u.2.2.1 53 (by decide), s1]
          show _ = ((O.length + opsN R : Nat) : Int)
          omega
        · have g := hf.2.2.fr (h' := h2) (fun r i r1' r2' _ _ => by rw [u.2.1 r (by omega), r1 r (by omega)]) (fun i _ _ => by rw [u.2.1 440 (by decide), r1 440 (by decide)])
          exact ⟨g.1, g.2.1.2, g.2.2⟩
      have ep : (putA C o).length = C.length + 1 := by unfold putA; rw [if_pos (by omega), List.length_append]; rfl
      exact zWp_m (ih (putA C o) h2 hf2 u.1 (by omega) (by omega) (fun x hx => ho x (List.mem_cons_of_mem _ hx))) (fun _ h3 v => ⟨v.1, v.2.1, (f1.t u.2.2.2).t v.2.2.1, fun q hq => by rw [v.2.2.2 q hq, u.2.2.1 q (by omega), t1 q (by omega)]⟩)
theorem q_R_hb {d : Nat} {kd ph bg pr o a : Int} {O : List Int} {R : List zFr} {h : zH} (hf : HF ((kd, ph, bg, pr, O) :: R) h) (hO : O.length + opsN R < 500) (ea : a = 4 - o) : zWp (m_R_holdsBack (d + 1) a h) (fun _ h' => HF ((kd, ph, bg, pr, o :: O) :: R) h' ∧ (∀ r, ¬ (r = 403 ∨ r = 440) → h' r = h r) ∧ (∀ q, ¬ q = 53 → h' 403 q = h 403 q) ∧ frLr h h') := by
  have e53 : h 403 53 = ((O.length + opsN R : Nat) : Int) := hf.2.1
  rw [em_R_holdsBack, ea]
  refine zWp_it (by omega) (zWp_lt fun h1 e1 => ?_)
  have k1 : ∀ q, h1 403 q = h 403 q := fun q => by rw [e1, zset_o (by decide)]
  rw [k1 53, w32_i (x := h 403 53 + 1) (by omega)]
  refine zWp_lt fun h2 e2 => zWp_s ?_
  have k2 : ∀ q, ¬ q = 53 → h2 403 q = h 403 q := fun q hq => by rw [e2, zset_j hq]; exact k1 q
  have r2 : ∀ r, ¬ (r = 403 ∨ r = 440) → h2 r = h r := fun r hr => by rw [e2, zset_n (by omega), e1, zset_n (by omega)]
  have g4 : ∀ i, h2 440 i = if i = h 403 53 then 4 - o else h 440 i := fun i => by rw [e2, zset_o (by decide), e1, zset_g]
  refine ⟨⟨by rw [k2 50 (by decide)]; exact hf.1, ?_, ?_⟩, r2, k2, fun r hr => r2 r (by omega), fun q hq => k2 q (by omega), fun r i hr _ => by rw [r2 r (by omega)]⟩
  · rw [e2, zset_e, e53]
    show _ = ((O.length + 1 + opsN R : Nat) : Int)
    omega
  · have g := hf.2.2.fr (h' := h2) (fun r i r1' r2' _ _ => by rw [r2 r (by omega)]) (fun i _ i2 => by rw [g4, if_neg (by have i3 : i < ((O.length + opsN R : Nat) : Int) := i2; omega)])
    exact ⟨g.1, ⟨by rw [g4, if_pos (by omega)], g.2.1⟩, g.2.2⟩
theorem q_R_ps {d : Nat} {kd : Int} {F : List zFr} {h : zH} (hf : HF F h) (hF : F.length < 20) : zWp (m_R_pushes (d + 1) kd h) (fun _ h' => (∀ pr h2, (∀ r, r ≠ 438 → h2 r = h' r) → (∀ i : Int, i ≠ (F.length : Int) → h2 438 i = h' 438 i) → (kd = 3 ∨ kd = 4 → h2 438 F.length = 4 - pr) → HF ((kd, 0, 1, pr, []) :: F) h2) ∧ (∀ r, ¬ (r = 403 ∨ 435 ≤ r ∧ r ≤ 439) → h' r = h r) ∧ (∀ q, ¬ q = 50 → h' 403 q = h 403 q) ∧ h' 403 50 = (F.length : Int) + 1 ∧ frLr h h') := by
  have e50 := hf.1
  have e53 := hf.2.1
  rw [em_R_pushes]
  refine zWp_it (by omega) (zWp_lt fun h1 e1 => ?_)
  have k1 : ∀ q, h1 403 q = h 403 q := fun q => by rw [e1, zset_o (by decide)]
  rw [k1 50]
  refine zWp_it (by omega) (zWp_lt fun h2 e2 => ?_)
  have k2 : ∀ q, h2 403 q = h 403 q := fun q => by rw [e2, zset_o (by decide)]; exact k1 q
  rw [k2 50]
  refine zWp_it (by omega) (zWp_lt fun h3 e3 => ?_)
  have k3 : ∀ q, h3 403 q = h 403 q := fun q => by rw [e3, zset_o (by decide)]; exact k2 q
  rw [k3 50, k3 53]
  refine zWp_it (by omega) (zWp_lt fun h4 e4 => ?_)
  have k4 : ∀ q, h4 403 q = h 403 q := fun q => by rw [e4, zset_o (by decide)]; exact k3 q
  rw [k4 50, w32_i (x := h 403 50 + 1) (by omega)]
  refine zWp_lt fun h5 e5 => zWp_s ?_
  have k5 : ∀ q, ¬ q = 50 → h5 403 q = h 403 q := fun q hq => by rw [e5, zset_j hq]; exact k4 q
  have r5 : ∀ r, ¬ (r = 403 ∨ 435 ≤ r ∧ r ≤ 437 ∨ r = 439) → h5 r = h r := fun r hr => by rw [e5, zset_n (by omega), e4, zset_n (by omega), e3, zset_n (by omega), e2, zset_n (by omega), e1, zset_n (by omega)]
  have a1 : ∀ i, h5 435 i = if i = h 403 50 then kd else h 435 i := fun i => by rw [e5, zset_o (by decide), e4, zset_o (by decide), e3, zset_o (by decide), e2, zset_o (by decide), e1, zset_g]
  have a2 : ∀ i, h5 436 i = if i = h 403 50 then 0 else h 436 i := fun i => by rw [e5, zset_o (by decide), e4, zset_o (by decide), e3, zset_o (by decide), e2, zset_g, e1, zset_o (by decide)]
  have a3 : ∀ i, h5 437 i = if i = h 403 50 then 1 else h 437 i := fun i => by rw [e5, zset_o (by decide), e4, zset_o (by decide), e3, zset_g, e2, zset_o (by decide), e1, zset_o (by decide)]
  have a4 : ∀ i, h5 439 i = if i = h 403 50 then h 403 53 else h 439 i := fun i => by rw [e5, zset_o (by decide), e4, zset_g, e3, zset_o (by decide), e2, zset_o (by decide), e1, zset_o (by decide)]
  have e5' : h5 403 50 = (F.length : Int) + 1 := by rw [e5, zset_e, e50]
  refine ⟨fun pr h6 u1 u2 u3 => ?_, fun r hr => r5 r (by omega), k5, e5', fun r hr => r5 r (by omega), fun q hq => k5 q (by omega), fun r i hr _ => by rw [r5 r (by omega)]⟩
  refine ⟨by rw [u1 403 (by decide), e5']; rfl, by rw [u1 403 (by decide), k5 53 (by decide), e53]; show _ = ((0 + opsN F : Nat) : Int); omega, ?_⟩
  refine ⟨⟨by rw [u1 435 (by decide), a1, if_pos e50.symm], by rw [u1 436 (by decide), a2, if_pos e50.symm], by rw [u1 437 (by decide), a3, if_pos e50.symm], u3, by rw [u1 439 (by decide), a4, if_pos e50.symm, e53]⟩, True.intro, ?_⟩
  refine hf.2.2.fr (fun r i r1 r2 i1 i2 => ?_) (fun i _ _ => by rw [u1 440 (by decide), r5 440 (by decide)])
  have hi : ¬ i = h 403 50 := by omega
  rcases (show r = 435 ∨ r = 436 ∨ r = 437 ∨ r = 438 ∨ r = 439 by omega) with z | z | z | z | z
  · rw [z, u1 435 (by decide), a1, if_neg hi]
  · rw [z, u1 436 (by decide), a2, if_neg hi]
  · rw [z, u1 437 (by decide), a3, if_neg hi]
  · rw [z, u2 i (by omega), r5 438 (by decide)]
  · rw [z, u1 439 (by decide), a4, if_neg hi]
/-- a field of the top frame set -/
theorem HF.st {kd ph bg pr : Int} {O : List Int} {R : List zFr} {h : zH} {r v : Int} {f : zFr} (hf : HF ((kd, ph, bg, pr, O) :: R) h) (hr : (r = 435 ∧ f = (v, ph, bg, pr, O) ∧ ((v = 3 ∨ v = 4) → (kd = 3 ∨ kd = 4))) ∨ (r = 436 ∧ f = (kd, v, bg, pr, O)) ∨ (r = 437 ∧ f = (kd, ph, v, pr, O))) : HF (f :: R) (zset h r R.length v) := by
  have hr' : 435 ≤ r ∧ r ≤ 437 := by omega
  have fR : FrH (zset h r R.length v) R := hf.2.2.2.2.fr (fun a i _ _ _ i2 => zset_2 (by omega)) (fun i _ _ => zset_o (by omega))
  have o4 : (zset h r (R.length : Int) v) 440 = h 440 := zset_n (by omega)
  have fO : OpH (zset h r R.length v) (opsN R) O := hf.2.2.2.1.fr (fun i _ _ => by rw [o4])
  obtain ⟨g1, g2, g3, g4, g5⟩ := hf.2.2.1
  have n3 : ∀ q, (zset h r (R.length : Int) v) 403 q = h 403 q := fun q => zset_o (by omega)
  rcases hr with ⟨z1, z2, z3⟩ | ⟨z1, z2⟩ | ⟨z1, z2⟩
  · rw [z2]
    refine ⟨by rw [n3]; exact hf.1, by rw [n3]; exact hf.2.1, ⟨zset_1 z1.symm rfl, ?_, ?_, fun w => ?_, ?_⟩, fO, fR⟩
    · rw [zset_o (by omega)]; exact g2
    · rw [zset_o (by omega)]; exact g3
    · rw [zset_o (by omega)]; exact g4 (z3 w)
    · rw [zset_o (by omega)]; exact g5
  · rw [z2]
    refine ⟨by rw [n3]; exact hf.1, by rw [n3]; exact hf.2.1, ⟨?_, zset_1 z1.symm rfl, ?_, fun w => ?_, ?_⟩, fO, fR⟩
    · rw [zset_o (by omega)]; exact g1
    · rw [zset_o (by omega)]; exact g3
    · rw [zset_o (by omega)]; exact g4 w
    · rw [zset_o (by omega)]; exact g5
  · rw [z2]
    refine ⟨by rw [n3]; exact hf.1, by rw [n3]; exact hf.2.1, ⟨?_, ?_, zset_1 z1.symm rfl, fun w => ?_, ?_⟩, fO, fR⟩
    · rw [zset_o (by omega)]; exact g1
    · rw [zset_o (by omega)]; exact g2
    · rw [zset_o (by omega)]; exact g4 w
    · rw [zset_o (by omega)]; exact g5
