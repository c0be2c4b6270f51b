/-! a statement, laws too, in the reference -/
def BkN (K : zKb) (h : zH) : Prop := CoR K.1 h ∧ ∀ (j a m e : Nat), K.2[j]? = some (a, m, e) → h 430 (8 * h 403 44 + (j : Int)) = (a : Int) ∧ h 431 (8 * h 403 44 + (j : Int)) = (m : Int) ∧ h 432 (8 * h 403 44 + (j : Int)) = (e : Int)
theorem BkN.f {K : zKb} {h h' : zH} (k : BkN K h) (e : ∀ r, 430 ≤ r → r ≤ 434 → h' r = h r) (e1 : h' 403 43 = h 403 43) (e2 : h' 403 44 = h 403 44) : BkN K h' := by
  unfold BkN at k ⊢
  rw [e 430 (by decide) (by decide), e 431 (by decide) (by decide), e 432 (by decide) (by decide), e2]
  exact ⟨k.1.fr e1 e2 (e 433 (by decide) (by decide)) (e 434 (by decide) (by decide)), k.2⟩
theorem BkN.x {A : List zTk} {g : zLx → zLx} {K : zKb} {s : zRd} {h h' : zH} (k : BkN K h) (e44 : h' 403 44 = h 403 44) (co : CoR (lwS A g (s, K.1)).2 h') (m1 : ∀ i, h' 430 (8 * h 403 44 + i) = if i = (K.2.length : Int) then (K.1.length : Int) else h 430 (8 * h 403 44 + i)) (m2 : ∀ i, h' 431 (8 * h 403 44 + i) = if i = (K.2.length : Int) then ((sumA A 8 (s, K.1)).2.length : Int) else h 431 (8 * h 403 44 + i)) (m3 : ∀ i, h' 432 (8 * h 403 44 + i) = if i = (K.2.length : Int) then ((lwS A g (s, K.1)).2.length : Int) else h 432 (8 * h 403 44 + i)) : BkN (lawU A g s K) h' := by
  unfold lawU
  refine ⟨co, fun j a m e hj => ?_⟩
  rw [e44]
  dsimp only at hj
  by_cases z : j = K.2.length
  · rw [z, List.getElem?_append_right (Nat.le_refl _), Nat.sub_self] at hj
    have el := Option.some.inj hj
    have e1 := congrArg Prod.fst el
    have e2 := congrArg (fun x : zMk => x.2.1) el
    have e3 := congrArg (fun x : zMk => x.2.2) el
    dsimp only at e1 e2 e3
    rw [z, m1, m2, m3, if_pos rfl, if_pos rfl, if_pos rfl, e1, e2, e3]
    exact ⟨rfl, rfl, rfl⟩
  · have hlt := (List.getElem?_eq_some_iff.1 hj).1
    rw [List.length_append] at hlt
    have hlt' : j < K.2.length + 1 := hlt
    rw [List.getElem?_append_left (show j < K.2.length by omega)] at hj
    have jn : ¬ (j : Int) = (K.2.length : Int) := by omega
    rw [m1, m2, m3, if_neg jn, if_neg jn, if_neg jn]
    exact k.2 j a m e hj
def StY (T : Int → Int) (n : Int) (x : zS4) (h h' : zH) : Prop := RR T n x.2.1 h' ∧ frBw h h' ∧ (effK (toks T n) x.2.1 = 0 → PR x.1 h' ∧ BkN x.2.2.2 h')
theorem q_R_stmY {d : Nat} {T : Int → Int} {n : Int} {x : zS4} {h : zH} (w : WP x.1) (hw : 1 ≤ x.1 0 0) (c2 : x.1 8 2 < 100) (c5 : x.1 8 5 < 100) (p : PR x.1 h) (r : RR T n x.2.1 h) (hd : effK (toks T n) x.2.1 = 0) (hk : (tkI (toks T n) x.2.1.1).1 ≠ 0) (kn : BkN x.2.2.2 h) (hL : x.1 8 16 = (x.2.2.2.2.length : Int)) (hC : x.2.2.2.1.length ≤ x.2.1.1) : zWp (m_R_statement (d + 10) h) (fun _ h' => StY T n (bodY (toks T n) x) h h') := by
  obtain ⟨σ, s, K1, K⟩ := x
  dsimp only at w hw c2 c5 p r hd hk kn hL hC
  by_cases z : owS (toks T n) s = 16
  case neg =>
    have e : bodY (toks T n) (σ, s, K1, K) = ((bodX (toks T n) σ s).1, (bodX (toks T n) σ s).2, K1, K) := by
      unfold bodY
      dsimp only
      rw [if_neg (fun y => z y.1)]
    rw [e]
    refine zWp_m (q_R_stm (d := d + 3) w hw c2 c5 p r hd hk z) (fun _ h' u => ⟨u.1, u.2.1.w, fun y => ⟨u.2.2 y, kn.f (fun r r1 r2 => u.2.1.1 r (by omega)) (u.2.1.2.1 43 (by decide)) (u.2.1.2.1 44 (by decide))⟩⟩)
  have no : ∀ i : Nat, i ≠ 16 → owS (toks T n) s ≠ (i : Int) := fun i hi y => hi (by omega)
  rw [em_R_statement]
  refine k_wd (d := d + 8) r hd 1 (by decide) (by decide) (fun e => absurd e (no 1 (by decide))) (fun _ => zWp_it rfl ?_)
  refine k_wd (d := d + 8) r hd 2 (by decide) (by decide) (fun e => absurd e (no 2 (by decide))) (fun _ => zWp_it rfl ?_)
  refine k_wd (d := d + 8) r hd 4 (by decide) (by decide) (fun e => absurd e (no 4 (by decide))) (fun _ => zWp_it rfl ?_)
  refine k_wd (d := d + 8) r hd 5 (by decide) (by decide) (fun e => absurd e (no 5 (by decide))) (fun _ => zWp_it rfl ?_)
  refine k_wd (d := d + 8) r hd 7 (by decide) (by decide) (fun e => absurd e (no 7 (by decide))) (fun _ => zWp_it rfl ?_)
  refine k_wd (d := d + 8) r hd 10 (by decide) (by decide) (fun e => absurd e (no 10 (by decide))) (fun _ => zWp_it rfl ?_)
  refine zWp_bv (P := fun _ h' => StY T n (bodY (toks T n) (σ, s, K1, K)) h h') ?_ (fun _ h1 u => zWp_s u)
  rw [em_R_others]
  refine k_wd (d := d + 7) r hd 12 (by decide) (by decide) (fun e => absurd e (no 12 (by decide))) (fun _ => zWp_it rfl ?_)
  refine k_wd (d := d + 7) r hd 13 (by decide) (by decide) (fun e => absurd e (no 13 (by decide))) (fun _ => zWp_it rfl ?_)
  refine k_wd (d := d + 7) r hd 15 (by decide) (by decide) (fun e => absurd e (no 15 (by decide))) (fun _ => zWp_it rfl ?_)
  refine k_wd (d := d + 7) r hd 16 (by decide) (by decide) (fun _ => zWp_nt (by decide) ?_) (fun e => absurd z e)
  have wN := w.1.2
  have eN : nLa σ = σ 8 16 := rfl
  have ok := toks_ok (T := T) r.1.1
  refine zWp_bv (q_R_law2 (d := d) (by omega) p r hd hk kn.1 hC) (fun _ h1 u => zWp_s ?_)
  by_cases c : σ 8 16 < 8
  · have e : bodY (toks T n) (σ, s, K1, K) = (zset σ 8 16 (σ 8 16 + 1), lawP (toks T n) (advS s), lawU (toks T n) (testA (toks T n) 8) (advS s) K1, lawU (toks T n) (testB (toks T n) 8) (advS s) K) := by
      unfold bodY
      dsimp only
      rw [if_pos ⟨z, c⟩]
    rw [e]
    have v := u.1 (by omega)
    unfold LwQ at v
    rw [(lw_s ok (advS s) K.1).2, eN, hL] at v
    rw [hL]
    exact ⟨v.1.1, v.1.2, fun y => ⟨(v.2 y).1, kn.x v.1.2.b (v.2 y).2.1 (v.2 y).2.2.1 (v.2 y).2.2.2.1 (v.2 y).2.2.2.2⟩⟩
  · have e : bodY (toks T n) (σ, s, K1, K) = (σ, flS 5 (tkI (toks T n) s.1).2.1 s, K1, K) := by
      unfold bodY
      dsimp only
      rw [if_neg (fun y => c y.2), bodX_k (k := 16) z (m := 8) rfl (by decide) (by decide) (by decide), if_neg c]
    rw [e]
    have v := u.2 (by omega)
    exact ⟨v.1, v.2, fun y => absurd y (dd_f5 hd)⟩
