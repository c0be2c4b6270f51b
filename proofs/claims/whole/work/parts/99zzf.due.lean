/-! laws: what they are worth; the class reckons what is due -/
abbrev zL4 : Type := List Int × List Int × List Int × List Int
def vlE (E : Int → Int) (X : List Int) : Int := match exA E 64 X [] with
  | some (v :: _) => v
  | _ => 0
def enE (x1 x2 x3 x4 x5 c : Int) : Int := if c = -1 then x1 else if c = -2 then x2 else if c = -3 then x3 else if c = -4 then x4 else if c = -5 then x5 else 0
def cuV (v : Int) : Int := if v < 0 then 0 else if 9999 < v then 9999 else v
def lwV (E : Int → Int) : List zL4 → Int
  | [] => 0
  | l :: L => if vlE E l.2.1 = 0 then lwV E L else cuV (vlE E l.1)
def lwF (L : List zL4) : zLw := fun x1 x2 x3 x4 x5 => lwV (enE x1 x2 x3 x4 x5) L
def LOk (L : List zL4) : Prop := ∀ l ∈ L, VV pM 27 l.1 l.2.2.1 ∧ VV p01 30 l.2.1 l.2.2.2
theorem cu_b {v : Int} : 0 ≤ cuV v ∧ cuV v ≤ 9999 := by
  unfold cuV
  split
  · decide
  split
  · decide
  · omega
theorem lw_b {E : Int → Int} : ∀ (L : List zL4), 0 ≤ lwV E L ∧ lwV E L ≤ 9999
  | [] => by rw [lwV]; decide
  | l :: L => by
    rw [lwV]
    split
    · exact lw_b L
    · exact cu_b
theorem en_ok {x1 x2 x3 x4 x5 : Int} (h1 : 0 ≤ x1 ∧ x1 ≤ 9999) (h2 : 0 ≤ x2 ∧ x2 ≤ 9999) (h3 : 0 ≤ x3 ∧ x3 ≤ 9999) (h4 : 0 ≤ x4 ∧ x4 ≤ 1) (h5 : 0 ≤ x5 ∧ x5 ≤ 9999) : EOk (enE x1 x2 x3 x4 x5) := by
  intro c
  unfold enE
  repeat' split
  all_goals omega
theorem vl_e {E : Int → Int} {X : List Int} {v : Int} (h : exA E 64 X [] = some [v]) : vlE E X = v := by
  unfold vlE
  rw [h]
def LwC (b : Int) (j : Int) (l : zL4) (h : zH) : Prop := ∃ P : Nat, h (b + 23) j = (P : Int) ∧ h (b + 24) j = ((P + l.1.length : Nat) : Int) ∧ h (b + 25) j = ((P + l.1.length + l.2.1.length : Nat) : Int) ∧ (∀ (i : Nat) (x : Int), (l.1 ++ l.2.1)[i]? = some x → h (b + 22) ((P + i : Nat) : Int) = x) ∧ P + l.1.length + l.2.1.length ≤ 1600
def BkC (L : List zL4) (b : Int) (h : zH) : Prop := h (b + 21) 5 = (L.length : Int) ∧ L.length ≤ 8 ∧ ∀ (j : Nat) (l : zL4), L[j]? = some l → LwC b (j : Int) l h
theorem LwC.fr {b j : Int} {l : zL4} {h h' : zH} (c : LwC b j l h) (e : ∀ r, b + 22 ≤ r → r ≤ b + 25 → h' r = h r) : LwC b j l h' := by
  unfold LwC at c ⊢
  rw [e (b + 22) (by omega) (by omega), e (b + 23) (by omega) (by omega), e (b + 24) (by omega) (by omega), e (b + 25) (by omega) (by omega)]
  exact c
theorem q_lfor {d : Nat} {E : Int → Int} {b : Int} (hb : 0 ≤ b) (ok : EOk E) : ∀ (L : List zL4) (j : Nat) (h : zH), LOk L → FcC E b h → h (b + 21) 5 = ((j + L.length : Nat) : Int) → j + L.length ≤ 8 → (∀ (i : Nat) (l : zL4), L[i]? = some l → LwC b ((j + i : Nat) : Int) l h) → zWp (l_LawBook_dueOf_40 (d + 6) (b + 21) (j : Int) h) (fun v h' => v = .inl (lwV E L) ∧ frRk b h h') := by
  intro L
  induction L with
  | nil =>
    intro j h _ fc e5 hj _
    have e5' : h (b + 21) 5 = ((j + 0 : Nat) : Int) := e5
    rw [el_LawBook_dueOf_40, e5']
    exact zWp_po (by omega) (zWp_nt (by omega) (zWp_s ⟨rfl, frRk.rf b h⟩))
  | cons l L ih =>
    intro j h lo fc e5 hj hl
    have el : (l :: L).length = L.length + 1 := rfl
    obtain ⟨P, a1, a2, a3, a4, a5⟩ := hl 0 l rfl
    have vs := (lo l (List.mem_cons_self ..)).1 E ok
    have vt := (lo l (List.mem_cons_self ..)).2 E ok
    obtain ⟨v, pv, xs, _⟩ := vs
    obtain ⟨w, pw, xt, _⟩ := vt
    have xs' := xs [] 64 (by decide)
    have xt' := xt [] 64 (by decide)
    have j0 : ((j + 0 : Nat) : Int) = (j : Int) := rfl
    rw [j0] at a1 a2 a3
    rw [el_LawBook_dueOf_40, e5, show b + 21 + 2 = b + 23 by omega, show b + 21 + 3 = b + 24 by omega, show b + 21 + 4 = b + 25 by omega, a2, a3]
    refine zWp_po (by omega) (zWp_it (by omega) (zWp_po (by omega) (zWp_po (by omega) (zWp_it (by omega) (zWp_po (by omega) (zWp_po (by omega) (zWp_it (by omega) (zWp_po (by omega) (zWp_bi (q_lreck (d := d + 1) (X := l.2.1) (i := P + l.1.length) hb fc (fun i x hx => ?_) a5 xt') (fun a h1 u => ?_))))))))))
    · have := a4 (l.1.length + i) x (by rw [List.getElem?_append_right (by omega), show l.1.length + i - l.1.length = i by omega]; exact hx)
      rw [show P + l.1.length + i = P + (l.1.length + i) by omega]
      exact this
    rw [u.1]
    have fc1 : FcC E b h1 := fun i i1 i2 => by rw [u.2.1 (b + 26) (by omega)]; exact fc i i1 i2
    rw [lwV, vl_e xt', vl_e xs']
    by_cases z : w = 0
    · rw [if_pos (c := w = 0) (t := lwV E L) z, w32_i (x := (j : Int) + 1) (by omega), show (j : Int) + 1 = ((j + 1 : Nat) : Int) from rfl]
      refine zWp_it z (zWp_m (ih (j + 1) h1 (fun x hx => lo x (List.mem_cons_of_mem _ hx)) fc1 (by rw [u.2.2 5 (by decide), e5, el]; omega) (by omega) (fun i x hx => ?_)) (fun v h2 k => ⟨k.1, u.2.t k.2⟩))
      rw [show j + 1 + i = j + (i + 1) by omega]
      exact (hl (i + 1) x hx).fr (fun r r1 r2 => u.2.1 r (by omega))
    · rw [if_neg (c := w = 0) (t := lwV E L) z, u.2.1 (b + 23) (by omega), u.2.1 (b + 24) (by omega), a1, a2]
      refine zWp_nt z (zWp_po (by omega) (zWp_po (by omega) (zWp_it (by omega) (zWp_po (by omega) (zWp_po (by omega) (zWp_it (by omega) (zWp_po (by omega) (zWp_bi (q_lreck (d := d + 1) (X := l.1) (i := P) hb fc1 (fun i x hx => ?_) (by omega) xs') (fun a' h2 u2 => zWp_qi q_min (zWp_qi q_max (zWp_s ⟨?_, u.2.t u2.2⟩)))))))))))
      · rw [u.2.1 (b + 22) (by omega)]
        exact a4 i x (by rw [List.getElem?_append_left (List.getElem?_eq_some_iff.1 hx).1]; exact hx)
      · rw [u2.1]
        unfold cuV
        by_cases y : v < 9999
        · rw [if_pos y]
          by_cases y2 : v < 0
          · rw [if_pos y2, if_neg (by omega)]
          · rw [if_neg y2, if_neg (show ¬ 9999 < v by omega)]
            by_cases y3 : 0 < v
            · rw [if_pos y3]
            · rw [if_neg y3, show v = 0 by omega]
        · rw [if_neg y, if_pos (by decide), if_neg (show ¬ v < 0 by omega)]
          by_cases y3 : 9999 < v
          · rw [if_pos y3]
          · rw [if_neg y3, show v = 9999 by omega]
theorem law_C {L : List zL4} {b : Int} {h : zH} (hb : 0 ≤ b) (lo : LOk L) (bk : BkC L b h) : LawC (lwF L) b h := by
  intro d h2 hr hs x1 x2 x3 x4 x5 k1 k2 k3 k4 k5
  refine ⟨lw_b L, ?_⟩
  have bk2 : BkC L b h2 := ⟨by rw [hs 5 (by decide)]; exact bk.1, bk.2.1, fun j l hj => (bk.2.2 j l hj).fr hr⟩
  rw [em_LawBook_dueOf, show b + 21 + 5 = b + 26 by omega]
  refine zWp_po (by omega) (zWp_po (by omega) (zWp_it (by decide) (zWp_lt fun h3 e3 => zWp_po (by omega) (zWp_po (by omega) (zWp_it (by decide) (zWp_lt fun h4 e4 => zWp_po (by omega) (zWp_po (by omega) (zWp_it (by decide) (zWp_lt fun h5 e5 => zWp_po (by omega) (zWp_po (by omega) (zWp_it (by decide) (zWp_lt fun h6 e6 => zWp_po (by omega) (zWp_po (by omega) (zWp_it (by decide) (zWp_lt fun h7 e7 => ?_)))))))))))))))
  have r7 : ∀ r, r ≠ b + 26 → h7 r = h2 r := fun r hr => by rw [e7, zset_n hr, e6, zset_n hr, e5, zset_n hr, e4, zset_n hr, e3, zset_n hr]
  have fc : FcC (enE x1 x2 x3 x4 x5) b h7 := by
    intro i i1 i2
    unfold enE
    rcases (show i = 0 ∨ i = 1 ∨ i = 2 ∨ i = 3 ∨ i = 4 by omega) with z | z | z | z | z <;> rw [z]
    · rw [e7, zset_j (by decide), e6, zset_j (by decide), e5, zset_j (by decide), e4, zset_j (by decide), e3, zset_e]; rfl
    · rw [e7, zset_j (by decide), e6, zset_j (by decide), e5, zset_j (by decide), e4, zset_e]; rfl
    · rw [e7, zset_j (by decide), e6, zset_j (by decide), e5, zset_e]; rfl
    · rw [e7, zset_j (by decide), e6, zset_e]; rfl
    · rw [e7, zset_e]; rfl
  refine zWp_m (q_lfor (d := d + 1) hb (en_ok k1 k2 k3 k4 k5) L 0 h7 lo fc (by rw [r7 (b + 21) (by omega), bk2.1, Nat.zero_add]) (by rw [Nat.zero_add]; exact bk.2.1) (fun i l hi => ?_)) (fun v h8 u => ⟨u.1, fun r hr => ?_, fun q hq => ?_⟩)
  · rw [Nat.zero_add]
    exact (bk2.2.2 i l hi).fr (fun r r1 r2 => r7 r (by omega))
  · rw [u.2.1 r (by omega), r7 r (by omega)]
  · rw [u.2.2 q hq, r7 (b + 21) (by omega)]
