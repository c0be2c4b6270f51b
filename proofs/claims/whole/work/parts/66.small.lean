/-! small calls: status, fault, octet, due, seed, end, feed, law -/
theorem q_refuse {d : Nat} {k : Int} {h : zH} (hk : 0 ≤ k ∧ k < 6) : m_B_refuse (d + 2) k h = some (.inl (-1), zset h 3 k (w32 (h 3 k + 1))) := by
  rw [em_B_refuse, q_within, zqi_s, zit_f (by rw [if_pos hk]; decide), zit_t (by omega), zit_t (by omega), zlt_e]
theorem q_R_refuses {d : Nat} {k : Int} {h : zH} (hk : 0 ≤ k ∧ k < 6) : m_R_refuses (d + 1) k h = some (.inl (-1), zset h 441 k (w32 (h 441 k + 1))) := by
  rw [em_R_refuses, zit_t (by omega), zit_t (by omega), zlt_e]
theorem CI.ref {σ st : zH} {D : zDR} {K : zKp} {Λ : zLw} {G h : zH} (c : CI σ st D K Λ G h) {k : Int} (hk : 0 ≤ k ∧ k < 6) : CI σ st D K Λ (zset G 3 k (w32 (G 3 k + 1))) (zset h 3 k (w32 (h 3 k + 1))) := by
  have cg := c.2.2.1
  refine c.g ?_ (zset_o (by decide)) (zset_o (by decide)) (fun r z => zset_n (by unfold crC at z; omega))
  unfold CG at cg ⊢
  obtain ⟨⟨a1, a2⟩, ⟨a3, a4⟩, a5, a6, a7, a8⟩ := cg
  refine ⟨⟨by rw [zset_o (by decide), zset_o (by decide)]; exact a1, fun j j1 j2 => ?_⟩, ⟨by rw [zset_o (by decide), zset_o (by decide)]; exact a3, fun j j1 j2 => ?_⟩, fun i i1 i2 => ?_, by rw [zset_o (by decide), zset_o (by decide)]; exact a6, by rw [zset_o (by decide), zset_o (by decide)]; exact a7, by rw [zset_o (by decide), zset_o (by decide)]; exact a8⟩
  · rw [zset_o (by decide)] at j2
    rw [zset_o (by decide), zset_o (by decide)]; exact a2 j j1 j2
  · rw [zset_o (by decide)] at j2
    rw [zset_o (by decide), zset_o (by decide)]; exact a4 j j1 j2
  · rw [zset_g, zset_g, a5 k hk.1 hk.2]
    by_cases e : i = k
    · rw [if_pos e, if_pos e]
    · rw [if_neg e, if_neg e]; exact a5 i i1 i2
theorem RI.ref {σ st : zH} {D : zDR} {K : zKp} {Λ : zLw} {G h : zH} (c : RI σ st D K Λ G h) {k : Int} (hk : 0 ≤ k ∧ k < 6) : RI σ st D K Λ (zset G 3 k (w32 (G 3 k + 1))) (zset h 441 k (w32 (h 441 k + 1))) := by
  have cg := c.2.1
  refine c.g ?_ (fun q _ => zset_o (by decide)) (fun r z => zset_n (by omega))
  unfold RG at cg ⊢
  obtain ⟨⟨a1, a2⟩, ⟨a3, a4⟩, a5, a6, a7, a8⟩ := cg
  refine ⟨⟨by rw [zset_o (by decide), zset_o (by decide)]; exact a1, fun j j1 j2 => ?_⟩, ⟨by rw [zset_o (by decide), zset_o (by decide)]; exact a3, fun j j1 j2 => ?_⟩, fun i i1 i2 => ?_, by rw [zset_o (by decide), zset_o (by decide)]; exact a6, by rw [zset_o (by decide), zset_o (by decide)]; exact a7, by rw [zset_o (by decide), zset_o (by decide)]; exact a8⟩
  · rw [zset_o (by decide)] at j2
    rw [zset_o (by decide), zset_o (by decide)]; exact a2 j j1 j2
  · rw [zset_o (by decide)] at j2
    rw [zset_o (by decide), zset_o (by decide)]; exact a4 j j1 j2
  · rw [zset_g, zset_g, a5 k hk.1 hk.2]
    by_cases e : i = k
    · rw [if_pos e, if_pos e]
    · rw [if_neg e, if_neg e]; exact a5 i i1 i2
theorem WG.ref {G : zH} (w : WG G) {k : Int} : WG (zset G 3 k (w32 (G 3 k + 1))) := by
  obtain ⟨w1, w2, w3, w4⟩ := w
  refine ⟨by rw [zset_o (by decide)]; exact w1, fun j j1 j2 => ?_, by rw [zset_o (by decide)]; exact w3, by rw [zset_o (by decide)]; exact w4⟩
  rw [zset_o (by decide)] at j2
  rw [zset_o (by decide)]; exact w2 j j1 j2
/-- what a call that is refused does -/
theorem alike_ref {x : zR} {y : zH → zR} {V : zV} {k : Int} {σ st : zH} {D : zDR} {K : zKp} {Λ : zLw} {G h : zH} (c : CI σ st D K Λ G h) (r : RI σ st D K Λ G h) (wk : WK σ D K) (wg : WG G) (hk : 0 ≤ k ∧ k < 6) (hc : zWp x (fun v h1 => v = V ∧ h1 = zset h 3 k (w32 (h 3 k + 1)))) (hr : ∀ h', RI σ st D K Λ G h' → zWp (y h') (fun v h2 => v = V ∧ h2 = zset h' 441 k (w32 (h' 441 k + 1)))) : Alike x y := by
  refine alike (V := V) (st := st) (Λ := Λ) wk (wg.ref (k := k)) (fun h' f => zWp_m (hr h' (r.hi f)) ?_) (zWp_m hc ?_)
  · rintro v h2 ⟨u1, rfl⟩
    exact ⟨u1, (r.hi f).ref hk, fun r hr => zset_n (by omega)⟩
  · rintro v h1 ⟨u1, rfl⟩
    exact ⟨u1, c.ref hk, fun r hr => zset_n (by omega)⟩
theorem a_status {d : Nat} {x : Int} {h : zH} (i : INV h) : Alike (m_B_status (d + 2) x h) (m_R_status (d + 2) x) := by
  obtain ⟨σ, st, D, K, Λ, G, c, r, wk, wg⟩ := i
  refine alike_q c r wk wg (V := .inl (if 0 ≤ x ∧ x < 6 then G 3 x else -1)) ?_ (fun h' r' => ?_)
  · rw [em_B_status]
    refine zWp_qi q_within ?_
    by_cases c1 : 0 ≤ x ∧ x < 6
    · rw [if_pos c1, if_pos c1]
      exact zWp_nt (by decide) (zWp_it (by omega) (zWp_s ⟨by rw [c.2.2.1.2.2.1 x c1.1 c1.2], frQ.rf h⟩))
    · rw [if_neg c1, if_neg c1]
      exact zWp_it rfl (zWp_s ⟨rfl, frQ.rf h⟩)
  · rw [em_R_status]
    refine zWp_qi q_R_is ?_
    by_cases c1 : 0 ≤ x ∧ x < 6
    · rw [if_pos c1, if_pos (show 0 ≤ x ∧ x ≤ 5 by omega)]
      exact zWp_nt (by decide) (zWp_it (by omega) (zWp_s ⟨by rw [r'.2.1.2.2.1 x c1.1 c1.2], frQR.rf h'⟩))
    · rw [if_neg c1, if_neg (show ¬ (0 ≤ x ∧ x ≤ 5) by omega)]
      exact zWp_it rfl (zWp_s ⟨rfl, frQR.rf h'⟩)
theorem a_fault {d : Nat} {x : Int} {h : zH} (i : INV h) : Alike (m_B_fault (d + 1) x h) (m_R_fault (d + 1) x) := by
  obtain ⟨σ, st, D, K, Λ, G, c, r, wk, wg⟩ := i
  refine alike_q c r wk wg (V := .inl (if x = 0 then G 0 3 else if x = 1 then G 0 4 else -1)) ?_ (fun h' r' => ?_)
  · rw [em_B_fault, c.2.2.1.2.2.2.2.1, c.2.2.1.2.2.2.2.2]
    refine zWp_if (fun z => zWp_s ⟨by rw [if_pos z], frQ.rf h⟩) (fun z => ?_)
    rw [if_neg z]
    refine zWp_if (fun z => zWp_s ⟨by rw [if_pos z], frQ.rf h⟩) (fun z => ?_)
    rw [if_neg z]
    exact zWp_s ⟨rfl, frQ.rf h⟩
  · rw [em_R_fault, r'.2.1.2.2.2.2.1, r'.2.1.2.2.2.2.2]
    refine zWp_if (fun z => zWp_s ⟨by rw [if_pos z], frQR.rf h'⟩) (fun z => ?_)
    rw [if_neg z]
    refine zWp_if (fun z => zWp_s ⟨by rw [if_pos z], frQR.rf h'⟩) (fun z => ?_)
    rw [if_neg z]
    exact zWp_s ⟨rfl, frQR.rf h'⟩
theorem a_octet {d : Nat} {x : Int} {h : zH} (i : INV h) : Alike (m_B_octet (d + 2) x h) (m_R_octet (d + 2) x) := by
  obtain ⟨σ, st, D, K, Λ, G, c, r, wk, wg⟩ := i
  have w3 := wg.2.2.1
  refine alike_q c r wk wg (V := .inl (if 0 ≤ x ∧ x < G 0 1 then G 2 x else -1)) ?_ (fun h' r' => ?_)
  · rw [em_B_octet, c.2.2.1.2.1.1]
    refine zWp_qi q_within ?_
    by_cases c1 : 0 ≤ x ∧ x < G 0 1
    · rw [if_pos c1, if_pos c1]
      exact zWp_nt (by decide) (zWp_it (by omega) (zWp_s ⟨by rw [c.2.2.1.2.1.2 x c1.1 c1.2], frQ.rf h⟩))
    · rw [if_neg c1, if_neg c1]
      exact zWp_it rfl (zWp_s ⟨rfl, frQ.rf h⟩)
  · rw [em_R_octet, r'.2.1.2.1.1, w32_i (by omega)]
    refine zWp_qi q_R_is ?_
    by_cases c1 : 0 ≤ x ∧ x < G 0 1
    · rw [if_pos c1, if_pos (show 0 ≤ x ∧ x ≤ G 0 1 - 1 by omega)]
      exact zWp_nt (by decide) (zWp_it (by omega) (zWp_s ⟨by rw [r'.2.1.2.1.2 x c1.1 c1.2], frQR.rf h'⟩))
    · rw [if_neg c1, if_neg (show ¬ (0 ≤ x ∧ x ≤ G 0 1 - 1) by omega)]
      exact zWp_it rfl (zWp_s ⟨rfl, frQR.rf h'⟩)
def dueAt (D : zDR) (k w : Int) : Int := match D[k.toNat]? with
  | none => -1
  | some x => if w = 0 then x.1 else if w = 1 then x.2.1 else if w = 2 then x.2.2.1 else x.2.2.2
theorem dueAt_c {D : zDR} {h : zH} {r b : Int} (hD : ∀ (j : Nat) (x : Int × Int × Int × Int), D[j]? = some x → h r (b + 4 * j) = x.1 ∧ h r (b + (4 * j + 1)) = x.2.1 ∧ h r (b + (4 * j + 2)) = x.2.2.1 ∧ h r (b + (4 * j + 3)) = x.2.2.2) {k w : Int} (hk : 0 ≤ k ∧ k < D.length) (hw : 0 ≤ w ∧ w < 4) : h r (b + (4 * k + w)) = dueAt D k w := by
  obtain ⟨x, hx⟩ : ∃ x, D[k.toNat]? = some x := ⟨_, List.getElem?_eq_getElem (by omega)⟩
  obtain ⟨u1, u2, u3, u4⟩ := hD k.toNat x hx
  unfold dueAt
  rw [hx]
  show _ = (if w = 0 then x.1 else if w = 1 then x.2.1 else if w = 2 then x.2.2.1 else x.2.2.2)
  rw [show ((k.toNat : Nat) : Int) = k by omega] at u1 u2 u3 u4
  by_cases e0 : w = 0
  · rw [if_pos e0, e0, Int.add_zero]; exact u1
  by_cases e1 : w = 1
  · rw [if_neg e0, if_pos e1, e1]; exact u2
  by_cases e2 : w = 2
  · rw [if_neg e0, if_neg e1, if_pos e2, e2]; exact u3
  · rw [if_neg e0, if_neg e1, if_neg e2, show w = 3 by omega]; exact u4
theorem a_due {d : Nat} {x y : Int} {h : zH} (i : INV h) : Alike (m_B_due (d + 3) x y h) (m_R_due (d + 3) x y) := by
  obtain ⟨σ, st, D, K, Λ, G, c, r, wk, wg⟩ := i
  have cl := c.2.2.2.2.1
  have hl := cl.1.2
  refine alike_q c r wk wg (V := .inl (if 0 ≤ x ∧ x < D.length then (if 0 ≤ y ∧ y < 4 then dueAt D x y else -1) else -1)) ?_ (fun h' r' => ?_)
  · rw [em_B_due, cl.1.1]
    refine zWp_qi q_within ?_
    by_cases c1 : 0 ≤ x ∧ x < (D.length : Int)
    case neg =>
      rw [if_neg c1, if_neg c1]
      exact zWp_it rfl (zWp_s ⟨rfl, frQ.rf h⟩)
    rw [if_pos c1, if_pos c1]
    refine zWp_nt (by decide) (zWp_qi q_within ?_)
    by_cases c2 : 0 ≤ y ∧ y < 4
    case neg =>
      rw [if_neg c2, if_neg c2]
      exact zWp_it rfl (zWp_s ⟨rfl, frQ.rf h⟩)
    rw [if_pos c2, if_pos c2]
    have ed := dueAt_c (r := 327) (b := 0) (h := h) (fun j z hz => by have := cl.2 j z hz; simp only [Int.zero_add]; exact this) c1 c2
    rw [Int.zero_add] at ed
    have em : m_Ledger_told (d + 2) 326 x y h = some (.inl (dueAt D x y), h) := by
      rw [em_Ledger_told, zpo_t (by decide), zpo_t (by decide), w32_i (x := x * 4) (by omega), w32_i (by omega), q_within, zqi_s, zit_f (by rw [if_pos (by omega)]; decide), zpo_t (by decide), zpo_t (by decide), zit_t (by omega)]
      show some (Sum.inl (h 327 (x * 4 + y)), h) = _
      rw [show x * 4 + y = 4 * x + y by omega, ed]
    exact zWp_nt (by decide) (zWp_qi em (zWp_s ⟨rfl, frQ.rf h⟩))
  · have rd := r'.2.2.1
    rw [em_R_due, rd.2.1.1]
    refine zWp_it (by decide) ?_
    rw [show ((st 7, D) : zDu).2.length = D.length from rfl, w32_i (by omega)]
    refine zWp_qi q_R_is ?_
    by_cases c1 : 0 ≤ x ∧ x < (D.length : Int)
    case neg =>
      rw [if_neg c1, if_neg (show ¬ (0 ≤ x ∧ x ≤ (D.length : Int) - 1) by omega)]
      exact zWp_it rfl (zWp_s ⟨rfl, frQR.rf h'⟩)
    rw [if_pos c1, if_pos (show 0 ≤ x ∧ x ≤ (D.length : Int) - 1 by omega)]
    refine zWp_nt (by decide) (zWp_qi q_R_is ?_)
    by_cases c2 : 0 ≤ y ∧ y < 4
    case neg =>
      rw [if_neg c2, if_neg (show ¬ (0 ≤ y ∧ y ≤ 3) by omega)]
      exact zWp_it rfl (zWp_s ⟨rfl, frQR.rf h'⟩)
    rw [if_pos c2, if_pos (show 0 ≤ y ∧ y ≤ 3 by omega)]
    have ed := dueAt_c (D := D) (r := 453) (b := 0) (h := h') (fun j z hz => by have := rd.2.2 j z hz; simp only [Int.zero_add]; exact this) c1 c2
    rw [Int.zero_add] at ed
    refine zWp_nt (by decide) ?_
    rw [w32_i (x := 4 * x) (by omega), w32_i (by omega)]
    exact zWp_it (by omega) (zWp_s ⟨by rw [ed], frQR.rf h'⟩)
theorem CI.sd {σ st : zH} {D : zDR} {K : zKp} {Λ : zLw} {G h : zH} (c : CI σ st D K Λ G h) {x : Int} : CI σ st D K Λ (zset G 0 2 x) (zset h 0 5 x) := by
  have cg := c.2.2.1
  refine c.g ?_ (zset_j (by decide)) (zset_j (by decide)) (fun r z => zset_n (by unfold crC at z; omega))
  unfold CG at cg ⊢
  obtain ⟨⟨a1, a2⟩, ⟨a3, a4⟩, a5, a6, a7, a8⟩ := cg
  refine ⟨⟨by rw [zset_j (by decide), zset_j (by decide)]; exact a1, fun j j1 j2 => ?_⟩, ⟨by rw [zset_j (by decide), zset_j (by decide)]; exact a3, fun j j1 j2 => ?_⟩, fun i i1 i2 => ?_, by rw [zset_e, zset_e], by rw [zset_o (by decide), zset_j (by decide)]; exact a7, by rw [zset_o (by decide), zset_j (by decide)]; exact a8⟩
  · rw [zset_j (by decide)] at j2
    rw [zset_o (by decide), zset_o (by decide)]; exact a2 j j1 j2
  · rw [zset_j (by decide)] at j2
    rw [zset_o (by decide), zset_o (by decide)]; exact a4 j j1 j2
  · rw [zset_o (by decide), zset_o (by decide)]; exact a5 i i1 i2
theorem RI.sd {σ st : zH} {D : zDR} {K : zKp} {Λ : zLw} {G h : zH} (c : RI σ st D K Λ G h) {x : Int} : RI σ st D K Λ (zset G 0 2 x) (zset h 403 70 x) := by
  have cg := c.2.1
  refine c.g ?_ (fun q z => zset_j (by omega)) (fun r z => zset_n (by omega))
  unfold RG at cg ⊢
  obtain ⟨⟨a1, a2⟩, ⟨a3, a4⟩, a5, a6, a7, a8⟩ := cg
  refine ⟨⟨by rw [zset_j (by decide), zset_j (by decide)]; exact a1, fun j j1 j2 => ?_⟩, ⟨by rw [zset_j (by decide), zset_j (by decide)]; exact a3, fun j j1 j2 => ?_⟩, fun i i1 i2 => ?_, by rw [zset_e, zset_e], by rw [zset_j (by decide), zset_j (by decide)]; exact a7, by rw [zset_j (by decide), zset_j (by decide)]; exact a8⟩
  · rw [zset_j (by decide)] at j2
    rw [zset_o (by decide), zset_o (by decide)]; exact a2 j j1 j2
  · rw [zset_j (by decide)] at j2
    rw [zset_o (by decide), zset_o (by decide)]; exact a4 j j1 j2
  · rw [zset_o (by decide), zset_o (by decide)]; exact a5 i i1 i2
theorem WG.sd {G : zH} (w : WG G) {x : Int} (hx : 0 ≤ x ∧ x < 2147483648) : WG (zset G 0 2 x) := by
  obtain ⟨w1, w2, w3, w4⟩ := w
  refine ⟨by rw [zset_j (by decide)]; exact w1, fun j j1 j2 => ?_, by rw [zset_j (by decide)]; exact w3, by rw [zset_e]; exact hx⟩
  rw [zset_j (by decide)] at j2
  rw [zset_o (by decide)]; exact w2 j j1 j2
theorem a_seed {d : Nat} {x : Int} {h : zH} (i : INV h) (hx : zI32 x) : Alike (m_B_seed (d + 3) x h) (m_R_seed (d + 3) x) := by
  obtain ⟨σ, st, D, K, Λ, G, c, r, wk, wg⟩ := i
  unfold zI32 at hx
  by_cases c1 : x < 0
  · refine alike_ref c r wk wg (V := .inl 0) (k := 5) (by decide) ?_ (fun h' r' => ?_)
    · rw [em_B_seed]
      exact zWp_it c1 (zWp_qi (q_refuse (by decide)) (zWp_s ⟨rfl, rfl⟩))
    · rw [em_R_seed]
      exact zWp_it c1 (zWp_qi (q_R_refuses (by decide)) (zWp_it (by decide) (zWp_s ⟨rfl, rfl⟩)))
  · refine alike wk (wg.sd (x := x) (by omega)) (V := .inl 1) (st := st) (Λ := Λ) (h := h) (fun h' f => ?_) ?_
    · rw [em_R_seed]
      refine zWp_nt c1 (zWp_lt fun h1 e1 => zWp_s ⟨rfl, ?_, fun r z => by rw [e1, zset_n (by omega)]⟩)
      rw [e1]; exact (r.hi f).sd
    · rw [em_B_seed]
      refine zWp_nt c1 (zWp_lt fun h1 e1 => zWp_s ⟨rfl, ?_, fun r z => by rw [e1, zset_n (by omega)]⟩)
      rw [e1]; exact c.sd
/-- the tape's length -/
theorem CI.tl {σ st : zH} {D : zDR} {K : zKp} {Λ : zLw} {G h : zH} (c : CI σ st D K Λ G h) {x : Int} (hx : x ≤ G 0 0) : CI σ st D K Λ (zset G 0 0 x) (zset h 0 1 x) := by
  have cg := c.2.2.1
  refine c.g ?_ (zset_j (by decide)) (zset_j (by decide)) (fun r z => zset_n (by unfold crC at z; omega))
  unfold CG at cg ⊢
  obtain ⟨⟨a1, a2⟩, ⟨a3, a4⟩, a5, a6, a7, a8⟩ := cg
  refine ⟨⟨by rw [zset_e, zset_e], fun j j1 j2 => ?_⟩, ⟨by rw [zset_j (by decide), zset_j (by decide)]; exact a3, fun j j1 j2 => ?_⟩, fun i i1 i2 => ?_, by rw [zset_j (by decide), zset_j (by decide)]; exact a6, by rw [zset_o (by decide), zset_j (by decide)]; exact a7, by rw [zset_o (by decide), zset_j (by decide)]; exact a8⟩
  · rw [zset_e] at j2
    rw [zset_o (by decide), zset_o (by decide)]; exact a2 j j1 (by omega)
  · rw [zset_j (by decide)] at j2
    rw [zset_o (by decide), zset_o (by decide)]; exact a4 j j1 j2
  · rw [zset_o (by decide), zset_o (by decide)]; exact a5 i i1 i2
theorem RI.tl {σ st : zH} {D : zDR} {K : zKp} {Λ : zLw} {G h : zH} (c : RI σ st D K Λ G h) {x : Int} (hx : x ≤ G 0 0) : RI σ st D K Λ (zset G 0 0 x) (zset h 403 1 x) := by
  have cg := c.2.1
  refine c.g ?_ (fun q z => zset_j (by omega)) (fun r z => zset_n (by omega))
  unfold RG at cg ⊢
  obtain ⟨⟨a1, a2⟩, ⟨a3, a4⟩, a5, a6, a7, a8⟩ := cg
  refine ⟨⟨by rw [zset_e, zset_e], fun j j1 j2 => ?_⟩, ⟨by rw [zset_j (by decide), zset_j (by decide)]; exact a3, fun j j1 j2 => ?_⟩, fun i i1 i2 => ?_, by rw [zset_j (by decide), zset_j (by decide)]; exact a6, by rw [zset_j (by decide), zset_j (by decide)]; exact a7, by rw [zset_j (by decide), zset_j (by decide)]; exact a8⟩
  · rw [zset_e] at j2
    rw [zset_o (by decide), zset_o (by decide)]; exact a2 j j1 (by omega)
  · rw [zset_j (by decide)] at j2
    rw [zset_o (by decide), zset_o (by decide)]; exact a4 j j1 j2
  · rw [zset_o (by decide), zset_o (by decide)]; exact a5 i i1 i2
theorem WG.tl {G : zH} (w : WG G) {x : Int} (hx : 0 ≤ x ∧ x ≤ G 0 0) : WG (zset G 0 0 x) := by
  obtain ⟨w1, w2, w3, w4⟩ := w
  refine ⟨by rw [zset_e]; omega, fun j j1 j2 => ?_, by rw [zset_j (by decide)]; exact w3, by rw [zset_j (by decide)]; exact w4⟩
  rw [zset_e] at j2
  rw [zset_o (by decide)]; exact w2 j j1 (by omega)
theorem a_end {d : Nat} {x : Int} {h : zH} (i : INV h) : Alike (m_B_end (d + 3) x h) (m_R_end (d + 3) x) := by
  obtain ⟨σ, st, D, K, Λ, G, c, r, wk, wg⟩ := i
  have ec := c.2.2.1.1.1
  by_cases c1 : x < 0
  · refine alike_ref c r wk wg (V := .inl 0) (k := 0) (by decide) ?_ (fun h' r' => ?_)
    · rw [em_B_end]
      exact zWp_it c1 (zWp_qi (q_refuse (by decide)) (zWp_s ⟨rfl, rfl⟩))
    · rw [em_R_end, el_R_end_12]
      exact zWp_it c1 (zWp_qi (q_R_refuses (by decide)) (zWp_it (by decide) (zWp_s ⟨rfl, rfl⟩)))
  by_cases c2 : G 0 0 < x
  · refine alike_ref c r wk wg (V := .inl 0) (k := 0) (by decide) ?_ (fun h' r' => ?_)
    · rw [em_B_end, ec]
      exact zWp_nt c1 (zWp_it c2 (zWp_qi (q_refuse (by decide)) (zWp_s ⟨rfl, rfl⟩)))
    · rw [em_R_end, el_R_end_12, r'.2.1.1.1]
      exact zWp_nt c1 (zWp_it c2 (zWp_qi (q_R_refuses (by decide)) (zWp_it (by decide) (zWp_s ⟨rfl, rfl⟩))))
  · refine alike wk (wg.tl (x := x) (by omega)) (V := .inl 1) (st := st) (Λ := Λ) (h := h) (fun h' f => ?_) ?_
    · rw [em_R_end, (r.hi f).2.1.1.1]
      refine zWp_nt c1 (zWp_nt c2 (zWp_lt fun h1 e1 => zWp_s ⟨rfl, ?_, fun r z => by rw [e1, zset_n (by omega)]⟩))
      rw [e1]; exact (r.hi f).tl (by omega)
    · rw [em_B_end, ec]
      refine zWp_nt c1 (zWp_nt c2 (zWp_lt fun h1 e1 => zWp_s ⟨rfl, ?_, fun r z => by rw [e1, zset_n (by omega)]⟩))
      rw [e1]; exact c.tl (by omega)
