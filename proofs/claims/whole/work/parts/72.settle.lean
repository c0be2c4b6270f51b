/-! the class settles dues -/
def stD (st : zH) (Δ : zDu) : zH := fun k => if k = 7 then Δ.1 else if k = 10 then (fun _ => (Δ.2.length : Int)) else st k
theorem stD_o {st : zH} {Δ : zDu} {k : Int} (h7 : ¬ k = 7) (h10 : ¬ k = 10) : stD st Δ k = st k := by unfold stD; rw [if_neg h7, if_neg h10]
theorem stD_7 {st : zH} {Δ : zDu} : stD st Δ 7 = Δ.1 := by unfold stD; rw [if_pos rfl]
theorem stD_10 {st : zH} {Δ : zDu} : stD st Δ 10 = fun _ => (Δ.2.length : Int) := by unfold stD; rw [if_neg (by decide), if_pos rfl]
theorem WT.sd {σ st : zH} (wt : WT σ st) {Δ : zDu} : WT σ (stD st Δ) := by
  unfold WT at wt ⊢
  rw [stD_o (k := 1) (by decide) (by decide), stD_o (k := 5) (by decide) (by decide), stD_o (k := 6) (by decide) (by decide), stD_o (k := 8) (by decide) (by decide), stD_o (k := 9) (by decide) (by decide)]
  exact wt
theorem RT.sd {σ st : zH} {v : Int} {h : zH} (t : RT σ st v h) {Δ : zDu} : RT σ (stD st Δ) v h := by
  unfold RT at t ⊢
  rw [stD_o (k := 1) (by decide) (by decide), stD_o (k := 2) (by decide) (by decide), stD_o (k := 3) (by decide) (by decide), stD_o (k := 5) (by decide) (by decide), stD_o (k := 6) (by decide) (by decide), stD_o (k := 8) (by decide) (by decide), stD_o (k := 9) (by decide) (by decide)]
  exact t
def ClB (Δ : zDu) (h : zH) : Prop := (∀ o, 0 ≤ o → o < 6 → h 74 o = w32 (Δ.1 o)) ∧ CLd Δ.2 h
theorem q_charge {d : Nat} {Λ : zLw} {σ : zH} {Δ : zDu} {e : zEv} {h : zH} (b : ClB Δ h) (hp : 0 ≤ e.2.1 ∧ e.2.1 < 6) (hr : 0 ≤ σ 6 (eN e) ∧ σ 6 (eN e) < 6) (hn : 0 ≤ dueN Λ σ e ∧ dueN Λ σ e ≤ 9999) : zWp (m_Ledger_charge (d + 1) 326 67 e.2.1 (σ 6 (eN e)) (dueN Λ σ e) e.1 h) (fun _ h' => ClB (due1 Λ σ Δ e) h' ∧ (∀ r, ¬ (r = 67 ∨ r = 74 ∨ r = 327) → h' r = h r) ∧ ∀ q, ¬ q = 9 → h' 67 q = h 67 q) := by
  obtain ⟨b1, ⟨b2, b3⟩, b4⟩ := b
  rw [em_Ledger_charge]
  refine zWp_po (by decide) (zWp_po (by decide) (zWp_it (by omega) (zWp_po (by decide) (zWp_it (by omega) (zWp_lt fun h1 e1 => zWp_po (by decide) (zWp_po (by decide) (zWp_it (by omega) (zWp_po (by decide) (zWp_it (by omega) (zWp_lt fun h2 e2 => ?_))))))))))
  have o2 : ∀ r, ¬ r = 74 → h2 r = h r := fun r z => by rw [e2, zset_n (by omega), e1, zset_n (by omega)]
  have bal : ∀ o, 0 ≤ o → o < 6 → h2 74 o = w32 (Δ.1 o - (if o = e.2.1 then dueN Λ σ e else 0) + (if o = σ 6 (eN e) then dueN Λ σ e else 0)) := by
    intro o o1 o2
    rw [e2]
    show zset h1 74 (σ 6 (eN e)) (w32 (h1 74 (σ 6 (eN e)) + dueN Λ σ e)) 74 o = _
    have h1o : ∀ o, 0 ≤ o → o < 6 → h1 74 o = w32 (Δ.1 o - (if o = e.2.1 then dueN Λ σ e else 0)) := by
      intro o o1 o2
      rw [e1]
      show zset h 74 e.2.1 (w32 (h 74 e.2.1 - dueN Λ σ e)) 74 o = _
      rw [zset_g]
      by_cases c : o = e.2.1
      · rw [if_pos c, if_pos c, b1 _ hp.1 hp.2, c]; unfold w32; omega
      · rw [if_neg c, if_neg c, b1 o o1 o2, Int.sub_zero]
    rw [zset_g]
    by_cases c : o = σ 6 (eN e)
    · rw [if_pos c, h1o _ hr.1 hr.2, if_pos c, c]; unfold w32; omega
    · rw [if_neg c, h1o o o1 o2, if_neg c, Int.add_zero]
  by_cases c0 : dueN Λ σ e = 0
  · have ed : due1 Λ σ Δ e = Δ := by unfold due1; exact if_pos c0
    rw [ed]
    refine zWp_nt (by omega) (zWp_s ⟨⟨fun o o1 o2 => ?_, ⟨by rw [o2 67 (by decide)]; exact b2, b3⟩, fun j x hj => by rw [o2 327 (by decide)]; exact b4 j x hj⟩, fun r z => o2 r (by omega), fun q _ => by rw [o2 67 (by decide)]⟩)
    rw [bal o o1 o2, c0]
    congr 1
    split <;> split <;> omega
  have ed : due1 Λ σ Δ e = (fun o => Δ.1 o - (if o = e.2.1 then dueN Λ σ e else 0) + (if o = σ 6 (eN e) then dueN Λ σ e else 0), if Δ.2.length = 99 then Δ.2 else Δ.2 ++ [(e.2.1, σ 6 (eN e), dueN Λ σ e, e.1)]) := by unfold due1; exact if_neg c0
  rw [ed]
  have e9 : h2 67 9 = Δ.2.length := by rw [o2 67 (by decide)]; exact b2
  rw [e9]
  refine zWp_it (by omega) (zWp_po (by decide) ?_)
  by_cases c1 : Δ.2.length = 99
  · refine zWp_nt (by omega) (zWp_s ⟨⟨bal, ?_⟩, fun r z => o2 r (by omega), fun q _ => by rw [o2 67 (by decide)]⟩)
    show CLd (if Δ.2.length = 99 then Δ.2 else _) h2
    rw [if_pos c1]
    exact ⟨⟨e9, b3⟩, fun j x hj => by rw [o2 327 (by decide)]; exact b4 j x hj⟩
  have i0 : w32 ((Δ.2.length : Int) * 4) = 4 * Δ.2.length := by rw [w32_i (by omega)]; omega
  rw [i0, w32_i (x := 4 * (Δ.2.length : Int) + 1) (by omega), w32_i (x := 4 * (Δ.2.length : Int) + 2) (by omega), w32_i (x := 4 * (Δ.2.length : Int) + 3) (by omega)]
  refine zWp_it (by omega) (zWp_po (by decide) (zWp_po (by decide) (zWp_po (by decide) (zWp_it (by omega) (zWp_lt fun h3 e3 => zWp_po (by decide) (zWp_po (by decide) (zWp_it (by omega) (zWp_lt fun h4 e4 => zWp_po (by decide) (zWp_po (by decide) (zWp_it (by omega) (zWp_lt fun h5 e5 => zWp_po (by decide) (zWp_po (by decide) (zWp_it (by omega) (zWp_lt fun h6 e6 => zWp_po (by decide) (zWp_po (by decide) (zWp_lt fun h7 e7 => zWp_s ?_))))))))))))))))
  have o6 : ∀ r, ¬ r = 327 → h6 r = h2 r := fun r z => by rw [e6, zset_n (by omega), e5, zset_n (by omega), e4, zset_n (by omega), e3, zset_n (by omega)]
  have o7 : ∀ r, ¬ r = 67 → h7 r = h6 r := fun r z => by rw [e7, zset_n z]
  have g6 : ∀ i, h7 327 i = if i = 4 * (Δ.2.length : Int) + 3 then e.1 else if i = 4 * (Δ.2.length : Int) + 2 then dueN Λ σ e else if i = 4 * (Δ.2.length : Int) + 1 then σ 6 (eN e) else if i = 4 * (Δ.2.length : Int) then e.2.1 else h 327 i := by
    intro i
    rw [o7 327 (by decide), e6]
    show zset h5 327 _ _ 327 i = _
    rw [zset_g, e5]
    show (if i = _ then _ else zset h4 327 _ _ 327 i) = _
    rw [zset_g, e4]
    show (if i = _ then _ else (if i = _ then _ else zset h3 327 _ _ 327 i)) = _
    rw [zset_g, e3]
    show (if i = _ then _ else (if i = _ then _ else (if i = _ then _ else zset h2 327 _ _ 327 i))) = _
    rw [zset_g, o2 327 (by decide)]
  refine ⟨⟨fun o q1 q2 => ?_, ?_⟩, fun r z => ?_, fun q z => ?_⟩
  · rw [o7 74 (by decide), o6 74 (by decide)]; exact bal o q1 q2
  · show CLd (if Δ.2.length = 99 then Δ.2 else Δ.2 ++ [(e.2.1, σ 6 (eN e), dueN Λ σ e, e.1)]) h7
    rw [if_neg c1]
    refine ⟨⟨?_, ?_⟩, fun j x hj => ?_⟩
    · rw [e7, zset_e, o6 67 (by decide), e9, w32_i (by omega), List.length_append]; rfl
    · rw [List.length_append]; show ((Δ.2.length + 1 : Nat) : Int) ≤ 99; omega
    · by_cases ej : j = Δ.2.length
      · rw [ej, List.getElem?_append_right (Nat.le_refl _), Nat.sub_self] at hj
        have hx : x = (e.2.1, σ 6 (eN e), dueN Λ σ e, e.1) := (Option.some.inj hj).symm
        rw [hx, g6, g6, g6, g6, ej]
        refine ⟨?_, ?_, ?_, ?_⟩
        · rw [if_neg (by omega), if_neg (by omega), if_neg (by omega), if_pos rfl]
        · rw [if_neg (by omega), if_neg (by omega), if_pos rfl]
        · rw [if_neg (by omega), if_pos rfl]
        · rw [if_pos rfl]
      · have hlt : j < (Δ.2 ++ [(e.2.1, σ 6 (eN e), dueN Λ σ e, e.1)]).length := (List.getElem?_eq_some_iff.1 hj).1
        rw [List.length_append] at hlt
        have hlt : j < Δ.2.length + 1 := hlt
        rw [List.getElem?_append_left (by omega)] at hj
        obtain ⟨v1, v2, v3, v4⟩ := b4 j x hj
        rw [g6, g6, g6, g6]
        refine ⟨?_, ?_, ?_, ?_⟩
        · rw [if_neg (by omega), if_neg (by omega), if_neg (by omega), if_neg (by omega)]; exact v1
        · rw [if_neg (by omega), if_neg (by omega), if_neg (by omega), if_neg (by omega)]; exact v2
        · rw [if_neg (by omega), if_neg (by omega), if_neg (by omega), if_neg (by omega)]; exact v3
        · rw [if_neg (by omega), if_neg (by omega), if_neg (by omega), if_neg (by omega)]; exact v4
  · rw [o7 r (by omega), o6 r (by omega), o2 r (by omega)]
  · rw [e7, zset_j z, o6 67 (by decide), o2 67 (by decide)]
def frSe (a : Int) (h h' : zH) : Prop := (∀ r, ¬ (r = 67 ∨ r = 74 ∨ r = 327 ∨ r = a + 21 ∨ r = a + 26 ∨ r = a + 27) → h' r = h r) ∧ (∀ q, ¬ q = 9 → h' 67 q = h 67 q) ∧ ∀ q, ¬ q = 8 → h' (a + 21) q = h (a + 21) q
theorem q_settle3 {d : Nat} {Λ : zLw} {σ : zH} {a : Int} (w : WS σ) : ∀ (l : List zEv) {j : Nat} {Δ : zDu} {h : zH}, (j : Int) + l.length ≤ 68 → h 328 10 = (j : Int) + l.length → (∀ (i : Nat) (e : zEv), l[i]? = some e → ∀ q : Nat, q < 7 → h 330 (7 * ((j + i : Nat) : Int) + q) = (eRow σ e).getD q 0) → (∀ e ∈ l, evOk σ e ∧ eClaims σ e) → CS σ a h → LawC Λ a h → ClB Δ h → zWp (l_Ledger_settle_3 (d + 8) 326 a 67 328 j h) (fun _ h' => ClB (dueF Λ σ Δ l) h' ∧ frSe a h h') := by
  intro l
  induction l with
  | nil =>
    intro j Δ h hj h10 hr he g la b
    rw [el_Ledger_settle_3, h10]
    exact zWp_po (by decide) (zWp_nt (by show ¬ (j : Int) < (j : Int) + ((0 : Nat) : Int); omega) (zWp_s ⟨b, fun _ _ => rfl, fun _ _ => rfl, fun _ _ => rfl⟩))
  | cons e l ih =>
    intro j Δ h hj h10 hr he g la b
    have ha := g.a
    have ha2 := g.1
    have hO6 : nO σ ≤ 6 := w.2.1.2.1
    have hS10 : nS σ ≤ 10 := w.2.1.2.2.2.1
    have hl : ((e :: l).length : Int) = (l.length : Int) + 1 := by rw [List.length_cons]; rfl
    rw [hl] at hj h10
    obtain ⟨⟨v1, v2, v3, v4, v5, v6⟩, cl⟩ := he e List.mem_cons_self
    have h6n := w.2.2.2.1 _ v3.1 v3.2
    have n6 : -1 ≤ σ 6 (eN e) ∧ σ 6 (eN e) < nO σ := ⟨h6n.2.2.2.2.1, h6n.2.2.2.2.2.1⟩
    clear h6n
    have k1 := cl.2.1
    have k2 := cl.2.2.1
    have r0 := hr 0 e rfl
    have i0 : w32 ((j : Int) * 7) = 7 * (j : Int) := by rw [w32_i (by omega)]; omega
    have x0 : h 330 (7 * (j : Int)) = e.2.1 := r0 0 (by decide)
    have x1 : h 330 (7 * (j : Int) + 1) = σ 6 (eN e) := r0 1 (by decide)
    have x2 : h 330 (7 * (j : Int) + 2) = e.1 := r0 2 (by decide)
    have x3 : h 330 (7 * (j : Int) + 3) = eSp e := r0 3 (by decide)
    have x4 : h 330 (7 * (j : Int) + 4) = eV e := r0 4 (by decide)
    have x5 : h 330 (7 * (j : Int) + 5) = if eK e = 2 then 1 else 0 := r0 5 (by decide)
    have x6 : h 330 (7 * (j : Int) + 6) = eM e := r0 6 (by decide)
    have e13 : h (a + 13) e.1 = σ 13 e.1 := g.g 13 (by decide)
    have hW : 1 ≤ σ 13 e.1 ∧ σ 13 e.1 ≤ 999 := ⟨(w.2.2.2.2.1 e.1 v1.1 v1.2).1, (w.2.2.2.2.1 e.1 v1.1 v1.2).2.1⟩
    rw [el_Ledger_settle_3, h10, i0, w32_i (x := 7 * (j : Int) + 1) (by omega), w32_i (x := 7 * (j : Int) + 2) (by omega), w32_i (x := 7 * (j : Int) + 3) (by omega), w32_i (x := 7 * (j : Int) + 4) (by omega), w32_i (x := 7 * (j : Int) + 5) (by omega), w32_i (x := 7 * (j : Int) + 6) (by omega), w32_i (x := (j : Int) + 1) (by omega), show (328 : Int) + 2 = 330 from rfl, x2, x3, x4, x5, x6, e13]
    have hk : 0 ≤ (if eK e = 2 then (1 : Int) else 0) ∧ (if eK e = 2 then (1 : Int) else 0) ≤ 1 := by split <;> omega
    obtain ⟨hL, v, h1, e1, q1, q2, q3⟩ := la d h (fun _ _ _ => rfl) (fun _ _ => rfl) (σ 13 e.1) (eSp e) (eV e) (if eK e = 2 then 1 else 0) (eM e) (by omega) v4 v5 hk v6
    rw [q1] at e1
    refine zWp_po (by decide) (zWp_it (by omega) (zWp_po (by decide) (zWp_po (by decide) (zWp_it (by omega) (zWp_po (by omega) (zWp_po (by omega) (zWp_po (by omega) (zWp_it (by omega) (zWp_po (by decide) (zWp_it (by omega) (zWp_po (by decide) (zWp_it (by omega) (zWp_po (by decide) (zWp_it (by omega) (zWp_po (by decide) (zWp_it (by omega) (zWp_po (by omega) (zWp_qi e1 ?_))))))))))))))))))
    have y0 : h1 330 (7 * (j : Int)) = e.2.1 := by rw [q2 330 (by omega)]; exact x0
    have y1 : h1 330 (7 * (j : Int) + 1) = σ 6 (eN e) := by rw [q2 330 (by omega)]; exact x1
    rw [y0, y1]
    have b1 : ClB Δ h1 := ⟨fun o o1 o2 => by rw [q2 74 (by omega)]; exact b.1 o o1 o2, b.2.fr (by rw [q2 67 (by omega)]) (q2 327 (by omega))⟩
    obtain ⟨v', h3, e3, p1, p2, p3⟩ := q_charge (d := d + 7) (Λ := Λ) (σ := σ) (e := e) b1 (by omega) (by omega) hL
    refine zWp_po (by decide) (zWp_it (by omega) (zWp_po (by decide) (zWp_it (by omega) (zWp_po (by decide) (zWp_qv e3 ?_)))))
    have o3 : ∀ r, ¬ (r = 67 ∨ r = 74 ∨ r = 327 ∨ r = a + 21 ∨ r = a + 26 ∨ r = a + 27) → h3 r = h r := fun r z => by rw [p2 r (by omega), q2 r (by omega)]
    have o4 : ∀ q, ¬ q = 8 → h3 (a + 21) q = h (a + 21) q := fun q z => by rw [p2 (a + 21) (by omega), q3 q z]
    have := ih (j := j + 1) (Δ := due1 Λ σ Δ e) (h := h3) (by omega) (by rw [o3 328 (by omega), h10]; omega) (fun i e' hi q hq => by rw [o3 330 (by omega), show j + 1 + i = j + (i + 1) by omega]; exact hr (i + 1) e' hi q hq) (fun e' he' => he e' (List.mem_cons_of_mem _ he')) (g.fr (fun r r1 r2 => o3 r (by omega))) (la.fr (fun r r1 r2 => o3 r (by omega)) o4) p1
    rw [show ((j + 1 : Nat) : Int) = (j : Int) + 1 by omega] at this
    refine zWp_m this ?_
    rintro v h' ⟨u1, u2, u3, u4⟩
    exact ⟨u1, fun r z => by rw [u2 r z, o3 r z], fun q z => by rw [u3 q z, p3 q z, q2 67 (by omega)], fun q z => by rw [u4 q z, o4 q z]⟩
theorem CT.sd {σ st : zH} {h h' : zH} {Δ : zDu} (w : WS σ) (t : CT σ st 67 h) (b : ClB Δ h') (f : ∀ r, 67 ≤ r → r < 74 → ¬ r = 67 → h' r = h r) (f9 : ∀ q, ¬ q = 9 → h' 67 q = h 67 q) : CT σ (stD st Δ) 67 h' := by
  obtain ⟨c0, c1, c2, c3, c4, c5, c6, c7⟩ := t
  refine ⟨c0, fun i i1 i2 => ?_, fun i i1 i2 => ?_, fun i i1 i2 => ?_, fun o o1 o2 => ?_, ?_, ?_, ?_⟩
  · rw [f (67 + 1) (by decide) (by decide) (by decide), f (67 + 2) (by decide) (by decide) (by decide), f (67 + 3) (by decide) (by decide) (by decide), stD_o (by decide) (by decide), stD_o (by decide) (by decide), stD_o (by decide) (by decide)]; exact c1 i i1 i2
  · rw [f (67 + 4) (by decide) (by decide) (by decide), sAt_cg (fun j _ _ => by rw [stD_o (by decide) (by decide)]) i w.2.1.2.2.1]; exact c2 i i1 i2
  · rw [f (67 + 5) (by decide) (by decide) (by decide), f (67 + 6) (by decide) (by decide) (by decide), stD_o (by decide) (by decide), stD_o (by decide) (by decide)]; exact c3 i i1 i2
  · rw [stD_7]; exact b.1 o o1 o2
  · rw [f9 7 (by decide), stD_o (by decide) (by decide)]; exact c5
  · rw [f9 8 (by decide), stD_o (by decide) (by decide)]; exact c6
  · rw [stD_10]; exact b.2.1.1
/-- behind a drive: the dues of all that it has broken -/
theorem q_settle {d : Nat} {σ st : zH} {D : zDR} {Λ : zLw} {tr : zTr} {a : Int} {h : zH} (w : WS σ) (pi : PI σ tr st a 67 328 h) (ok : trOk σ tr) (la : LawC Λ a h) (cl : CLd D h) : zWp (m_Ledger_settle (d + 9) 326 a 67 328 h) (fun _ h' => CT σ (stD st (dueF Λ σ (st 7, D) (ecl σ (trEv σ tr)))) 67 h' ∧ CLd (dueF Λ σ (st 7, D) (ecl σ (trEv σ tr))).2 h' ∧ frSe a h h') := by
  obtain ⟨g, t, wt, mv, -, -, -, -, hcl⟩ := pi
  obtain ⟨m10, m11⟩ := mv.2.2.2.2.2.2.2
  have hr := (rem_le (st := st) w).1
  rw [em_Ledger_settle]
  have ha := g.a
  have ha2 := g.1
  refine zWp_m (q_settle3 (d := d) (Λ := Λ) (a := a) w (ecl σ (trEv σ tr)) (j := 0) (Δ := (st 7, D)) (h := h) (by omega) (by rw [m10]; omega) (fun i e hi q hq => ?_) (fun e he => ⟨trEv_ok w ok e (ecl_mem he).1, (ecl_mem he).2⟩) g la ⟨fun o o1 o2 => t.ba ⟨o1, o2⟩, cl⟩) ?_
  · have := m11 i e hi q hq
    rw [show ((0 + i : Nat) : Int) = (i : Int) by omega]
    exact this
  · rintro v h' ⟨u1, u2, u3, u4⟩
    exact ⟨t.sd w u1 (fun r r1 r2 r3 => u2 r (by omega)) u3, u1.2, u2, u3, u4⟩
