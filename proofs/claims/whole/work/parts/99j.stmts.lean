/-! field, rows, land, in the class -/
def fmx (w : Int) : Int := if Int.tdiv 60 w < 10 then Int.tdiv 60 w else 10
def sField (A : List zTk) (σ : zH) (s : zRd) : zH × zRd :=
  if (nbS A 2 10 s).1 < 2 then (σ, (nbS A 2 10 s).2) else if (nbS A 2 (fmx (nbS A 2 10 s).1) (nbS A 2 10 s).2).1 < 2 then (σ, (nbS A 2 (fmx (nbS A 2 10 s).1) (nbS A 2 10 s).2).2) else (zset (zset σ 0 0 (nbS A 2 10 s).1) 0 1 (nbS A 2 (fmx (nbS A 2 10 s).1) (nbS A 2 10 s).2).1, (nbS A 2 (fmx (nbS A 2 10 s).1) (nbS A 2 10 s).2).2)
theorem nb_v {A : List zTk} {lo hi : Int} {s : zRd} : (nbS A lo hi s).1 = -1 ∨ (lo ≤ (nbS A lo hi s).1 ∧ (nbS A lo hi s).1 ≤ hi) := by
  unfold nbS
  by_cases c1 : kdS A s = 3
  · rw [if_pos c1]
    by_cases c2 : lo ≤ (tkI A s.1).2.2.1 ∧ (tkI A s.1).2.2.1 ≤ hi
    · rw [if_pos c2]; exact Or.inr c2
    · rw [if_neg c2]; exact Or.inl rfl
  · rw [if_neg c1]; exact Or.inl rfl
theorem q_sField {d : Nat} {A : List zTk} {b : Int} {σ : zH} {s : zRd} {h : zH} (ok : AOk A) (c : PC A b σ s h) : zWp (m_SlopeReader_readField (d + 3) 4 h) (fun _ h' => PC A b (sField A σ s).1 (sField A σ s).2 h' ∧ frP b h h') := by
  have ha := c.a
  rw [em_SlopeReader_readField, show (4 + 1 : Int) = 5 from rfl]
  refine zWp_po (by decide) (zWp_po (by decide) (b_nb ok c (fun h1 c1 f1 => ?_)))
  unfold sField
  have v1 := nb_v (A := A) (lo := 2) (hi := 10) (s := s)
  generalize nbS A 2 10 s = u at *
  by_cases z : u.1 < 2
  · rw [if_pos (c := u.1 < 2) (t := ((σ, u.2) : zH × zRd)) z]
    exact zWp_it z (zWp_s ⟨c1, f1⟩)
  rw [if_neg (c := u.1 < 2) (t := ((σ, u.2) : zH × zRd)) z]
  have b1 : Int.tdiv 60 u.1 = 60 / u.1 := Int.tdiv_eq_ediv_of_nonneg (by decide)
  have b2 : 0 ≤ 60 / u.1 := Int.ediv_nonneg (by decide) (by omega)
  have b3 : 60 / u.1 ≤ 60 := Int.ediv_le_self (a := 60) u.1 (by decide)
  have ef : (if w32 (Int.tdiv 60 u.1) < 10 then w32 (Int.tdiv 60 u.1) else 10) = fmx u.1 := by rw [w32_i (by omega)]; rfl
  refine zWp_nt z (zWp_po (by decide) (zWp_dz (by omega) (zWp_qi (q_min (d := d + 1)) ?_)))
  rw [ef]
  refine zWp_po (by decide) (b_nb ok c1 (fun h2 c2 f2 => ?_))
  generalize nbS A 2 (fmx u.1) u.2 = v at *
  by_cases y : v.1 < 2
  · rw [if_pos (c := v.1 < 2) (t := ((σ, v.2) : zH × zRd)) y]
    exact zWp_it y (zWp_s ⟨c2, f1.t f2⟩)
  rw [if_neg (c := v.1 < 2) (t := ((σ, v.2) : zH × zRd)) y, c2.2.2.1]
  refine zWp_nt y (zWp_po (by decide) (zWp_po (by omega) (zWp_lt fun h3 e3 => ?_)))
  have t1 := c2.st (k := 0) (i := 0) (v := u.1) ⟨by decide, by decide, by decide⟩
  rw [Int.add_zero, ← e3] at t1
  rw [t1.1.2.2.1]
  refine zWp_po (by decide) (zWp_po (by omega) (zWp_lt fun h4 e4 => zWp_s ?_))
  have t2 := t1.1.st (k := 0) (i := 1) (v := v.1) ⟨by decide, by decide, by decide⟩
  rw [Int.add_zero, ← e4] at t2
  exact ⟨t2.1, (f1.t f2).t (t1.2.t t2.2)⟩
def rowF (A : List zTk) : Nat → Int → zH → zRd → zH × zRd
  | 0, _, σ, s => (σ, s)
  | n + 1, i, σ, s => rowF A n (i + 1) (zset σ 1 i (nbS A 0 999 s).1) (nbS A 0 999 s).2
def sRow (A : List zTk) (σ : zH) (s : zRd) : zH × zRd := rowF A (σ 0 0).toNat (σ 8 1 * σ 0 0) σ s
theorem q_row20 {d : Nat} {A : List zTk} {b f : Int} (ok : AOk A) : ∀ (n : Nat) {i : Int} {σ : zH} {s : zRd} {h : zH}, PC A b σ s h → 0 ≤ f → 0 ≤ i → i + n = f + σ 0 0 → f + σ 0 0 ≤ 60 → zWp (l_SlopeReader_readRow_20 (d + 2) 4 f i h) (fun _ h' => PC A b (rowF A n i σ s).1 (rowF A n i σ s).2 h' ∧ frP b h h') := by
  intro n
  induction n with
  | zero =>
    intro i σ s h c f0 i0 hi hf
    have ha := c.a
    rw [el_SlopeReader_readRow_20, c.2.2.1, c.2.1.z, w32_i (x := f + σ 0 0) (by omega)]
    exact zWp_po (by decide) (zWp_po (by omega) (zWp_nt (by omega) (zWp_s ⟨c, frP.rf b h⟩)))
  | succ n ih =>
    intro i σ s h c f0 i0 hi hf
    have ha := c.a
    rw [el_SlopeReader_readRow_20, c.2.2.1, c.2.1.z, w32_i (x := f + σ 0 0) (by omega), w32_i (x := i + 1) (by omega), show (4 + 1 : Int) = 5 from rfl]
    refine zWp_po (by decide) (zWp_po (by omega) (zWp_it (by omega) (zWp_it (by omega) (zWp_po (by decide) (zWp_po (by omega) (zWp_po (by decide) (zWp_po (by decide) (b_nb ok c (fun h1 c1 f1 => zWp_po (by omega) (zWp_it (by omega) (zWp_lt fun h2 e2 => ?_)))))))))))
    have t := c1.st (k := 1) (i := i) (v := (nbS A 0 999 s).1) ⟨by decide, by decide, by decide⟩
    rw [← e2] at t
    have e0 : zset σ 1 i (nbS A 0 999 s).1 0 0 = σ 0 0 := zset_o (by decide)
    refine zWp_m (ih t.1 f0 (by omega) (by rw [e0]; omega) (by rw [e0]; exact hf)) (fun _ h' u => ⟨u.1, (f1.t t.2).t u.2⟩)
theorem q_sRow {d : Nat} {A : List zTk} {b : Int} {σ : zH} {s : zRd} {h : zH} (ok : AOk A) (w : WB σ) (c : PC A b σ s h) (hr : 0 ≤ σ 8 1 ∧ σ 8 1 < σ 0 1) : zWp (m_SlopeReader_readRow (d + 3) 4 h) (fun _ h' => PC A b (sRow A σ s).1 (sRow A σ s).2 h' ∧ frP b h h') := by
  have ha := c.a
  have w1 := w.1
  have m1 : (σ 8 1 + 1) * σ 0 0 ≤ σ 0 1 * σ 0 0 := Int.mul_le_mul_of_nonneg_right (by omega) w1.1
  have m2 : (σ 8 1 + 1) * σ 0 0 = σ 8 1 * σ 0 0 + σ 0 0 := by rw [Int.add_mul, Int.one_mul]
  have m3 : σ 0 1 * σ 0 0 = nC σ := Int.mul_comm _ _
  have m4 : 0 ≤ σ 8 1 * σ 0 0 := Int.mul_nonneg hr.1 w1.1
  rw [em_SlopeReader_readRow, c.2.2.1, c.2.1.g 8 (by decide), c.2.1.z, w32_i (x := σ 8 1 * σ 0 0) (by omega)]
  exact zWp_po (by decide) (zWp_po (by omega) (zWp_po (by omega) (zWp_it (by decide) (zWp_po (by decide) (zWp_po (by omega) (q_row20 ok (σ 0 0).toNat c m4 m4 (by omega) (by omega)))))))
def lanF (w o l t : Int) : Nat → Int → zH → zH
  | 0, _, σ => σ
  | n + 1, i, σ => lanF w o l t n (i + 1) (if l ≤ i % w ∧ i % w ≤ t % w then zset σ 6 i o else σ)
def sLand (A : List zTk) (σ : zH) (s : zRd) : zH × zRd :=
  (fun (f : Int × zRd) => if f.1 = -1 then (σ, ndS A 2 6 f.2) else (fun (t : Int × zRd) => (lanF (σ 0 0) (onrS A σ s).1 (f.1 % σ 0 0) t.1 (t.1 + 1 - f.1).toNat f.1 σ, t.2)) (celS A σ (f.1 % σ 0 0) (f.1 / σ 0 0) (ndS A 2 6 f.2))) (celS A σ 0 0 (ndS A 2 3 (onrS A σ s).2))
theorem q_land78 {d : Nat} {A : List zTk} {b o l t : Int} : ∀ (n : Nat) {i : Int} {σ : zH} {s : zRd} {h : zH}, PC A b σ s h → 0 ≤ i → 1 ≤ σ 0 0 → t < 60 → n = (t + 1 - i).toNat → zWp (l_SlopeReader_readLand_78 d 4 o l t i h) (fun _ h' => PC A b (lanF (σ 0 0) o l t n i σ) s h' ∧ frP b h h') := by
  intro n
  induction n with
  | zero =>
    intro i σ s h c i0 hw ht hn
    rw [el_SlopeReader_readLand_78]
    exact zWp_it (by omega) (zWp_s ⟨c, frP.rf b h⟩)
  | succ n ih =>
    intro i σ s h c i0 hw ht hn
    have ha := c.a
    have e1 : Int.tmod i (σ 0 0) = i % σ 0 0 := Int.tmod_eq_emod_of_nonneg i0
    have e2 : Int.tmod t (σ 0 0) = t % σ 0 0 := Int.tmod_eq_emod_of_nonneg (by omega)
    rw [el_SlopeReader_readLand_78, c.2.2.1, c.2.1.z, e1, e2, w32_i (x := i + 1) (by omega), lanF]
    refine zWp_nt (by omega) (zWp_po (by decide) (zWp_po (by omega) (zWp_dz (by omega) ?_)))
    by_cases z1 : i % σ 0 0 < l
    · rw [if_neg (c := l ≤ i % σ 0 0 ∧ i % σ 0 0 ≤ t % σ 0 0) (fun y => by omega)]
      exact zWp_it z1 (ih c (by omega) hw ht (by omega))
    refine zWp_nt z1 (zWp_po (by decide) (zWp_po (by omega) (zWp_dz (by omega) ?_)))
    by_cases z2 : t % σ 0 0 < i % σ 0 0
    · rw [if_neg (c := l ≤ i % σ 0 0 ∧ i % σ 0 0 ≤ t % σ 0 0) (fun y => by omega)]
      exact zWp_it z2 (ih c (by omega) hw ht (by omega))
    rw [if_pos (c := l ≤ i % σ 0 0 ∧ i % σ 0 0 ≤ t % σ 0 0) (by omega)]
    refine zWp_nt z2 (zWp_po (by decide) (zWp_po (by omega) (zWp_po (by omega) (zWp_it (by omega) (zWp_lt fun h1 e3 => ?_)))))
    have u := c.st (k := 6) (i := i) (v := o) ⟨by decide, by decide, by decide⟩
    rw [← e3] at u
    have e0 : zset σ 6 i o 0 0 = σ 0 0 := zset_o (by decide)
    have nx := ih u.1 (i := i + 1) (by omega) (by rw [e0]; exact hw) ht (by omega)
    rw [e0] at nx
    exact zWp_m nx (fun _ h' y => ⟨y.1, u.2.t y.2⟩)
theorem q_sLand {d : Nat} {A : List zTk} {b : Int} {σ : zH} {s : zRd} {h : zH} (ok : AOk A) (w : WB σ) (c : PC A b σ s h) : zWp (m_SlopeReader_readLand (d + 4) 4 h) (fun _ h' => PC A b (sLand A σ s).1 (sLand A σ s).2 h' ∧ frP b h h') := by
  have ha := c.a
  have w1 := w.1
  rw [em_SlopeReader_readLand, show (4 + 1 : Int) = 5 from rfl]
  refine zWp_po (by decide) (b_no ok w c (fun h1 c1 f1 => zWp_po (by decide) (zWp_po (by decide) (b_ow ok c1 (fun h2 c2 f2 => zWp_po (by decide) (b_cl ok w c2 ⟨by decide, by decide⟩ (fun h3 c3 f3 => zWp_po (by decide) (zWp_po (by decide) (b_ow ok c3 (fun h4 c4 f4 => ?_))))))))))
  have ff := (f1.t f2).t (f3.t f4)
  unfold sLand
  have ce := cel_ok (A := A) (s := ndS A 2 3 (onrS A σ s).2) (lx := 0) (ly := 0) w ⟨by decide, by decide⟩
  have c1' := cel_1 (A := A) (σ := σ) (lx := 0) (ly := 0) (s := ndS A 2 3 (onrS A σ s).2)
  generalize celS A σ 0 0 (ndS A 2 3 (onrS A σ s).2) = f at *
  by_cases z : f.1 = -1
  · refine zWp_it z (zWp_s ⟨?_, ff⟩)
    show PC A b (if f.1 = -1 then (σ, ndS A 2 6 f.2) else _).1 (if f.1 = -1 then (σ, ndS A 2 6 f.2) else _).2 h4
    rw [if_pos z]
    exact c4
  · obtain ⟨_, x, y, x1, x2, y1, y2, e, p1, p2, p3⟩ := ce (c1' z)
    have pe : f.1 = y * σ 0 0 + x := by rw [e]
    have g0 : 0 ≤ f.1 ∧ f.1 < nC σ := by rw [pe]; exact ⟨p1, p2⟩
    have t1 : Int.tmod f.1 (σ 0 0) = f.1 % σ 0 0 := Int.tmod_eq_emod_of_nonneg g0.1
    have t2 : Int.tdiv f.1 (σ 0 0) = f.1 / σ 0 0 := Int.tdiv_eq_ediv_of_nonneg g0.1
    have m0 : 0 ≤ f.1 % σ 0 0 := Int.emod_nonneg _ (by omega)
    have m1 : 0 ≤ f.1 / σ 0 0 := Int.ediv_nonneg g0.1 (by omega)
    have m2 : f.1 / σ 0 0 ≤ f.1 := Int.ediv_le_self _ g0.1
    rw [c4.2.2.1, c4.2.1.z, t1, t2, w32_i (x := f.1 / σ 0 0) (by omega)]
    refine zWp_nt z (zWp_po (by decide) (zWp_po (by omega) (zWp_nt (by omega) (zWp_po (by decide) (zWp_po (by omega) (zWp_dz (by omega) (zWp_po (by decide) (zWp_po (by omega) (zWp_dz (by omega) (zWp_po (by decide) (b_cl ok w c4 ⟨m0, m1⟩ (fun h5 c5 f5 => ?_))))))))))))
    have tb : (celS A σ (f.1 % σ 0 0) (f.1 / σ 0 0) (ndS A 2 6 f.2)).1 < 60 := by
      by_cases q : (celS A σ (f.1 % σ 0 0) (f.1 / σ 0 0) (ndS A 2 6 f.2)).1 = -1
      · rw [q]; decide
      · obtain ⟨_, x', y', _, _, _, _, e', _, p2', _⟩ := cel_ok (A := A) (s := ndS A 2 6 f.2) w ⟨m0, m1⟩ (cel_1 q)
        rw [e']
        show y' * σ 0 0 + x' < 60
        omega
    refine zWp_m (q_land78 _ c5 g0.1 (by omega) tb rfl) (fun _ h' u => ⟨?_, ff.t (f5.t u.2)⟩)
    show PC A b (if f.1 = -1 then (σ, ndS A 2 6 f.2) else _).1 (if f.1 = -1 then (σ, ndS A 2 6 f.2) else _).2 h'
    rw [if_neg z]
    exact u.1
