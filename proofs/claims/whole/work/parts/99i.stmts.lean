/-! statements, in the class -/
theorem WB.st {σ : zH} (w : WB σ) {k i v : Int} (h0 : k ≠ 0) (h8 : k ≠ 8) : WB (zset σ k i v) := by
  have e0 : ∀ j, zset σ k i v 0 j = σ 0 j := fun j => zset_o (fun z => h0 z.symm)
  have e8 : ∀ j, zset σ k i v 8 j = σ 8 j := fun j => zset_o (fun z => h8 z.symm)
  unfold WB nC nO nS nHo nT nRo nLa at w ⊢
  rw [e0, e0, e8, e8, e8, e8, e8, e8]
  exact w
def sRough (A : List zTk) (σ : zH) (s : zRd) : zH × zRd :=
  (if (celS A σ 0 0 (ndS A 2 3 (nbS A 1 99 s).2)).1 = -1 then σ else zset σ 4 (celS A σ 0 0 (ndS A 2 3 (nbS A 1 99 s).2)).1 (nbS A 1 99 s).1, (celS A σ 0 0 (ndS A 2 3 (nbS A 1 99 s).2)).2)
theorem q_sRough {d : Nat} {A : List zTk} {b : Int} {σ : zH} {s : zRd} {h : zH} (ok : AOk A) (w : WB σ) (c : PC A b σ s h) : zWp (m_SlopeReader_readRough (d + 4) 4 h) (fun _ h' => PC A b (sRough A σ s).1 (sRough A σ s).2 h' ∧ frP b h h') := by
  have ha := c.a
  have w1 := w.1
  rw [em_SlopeReader_readRough, show (4 + 1 : Int) = 5 from rfl]
  refine zWp_po (by decide) (zWp_po (by decide) (b_nb ok c (fun h1 c1 f1 => zWp_po (by decide) (zWp_po (by decide) (b_ow ok c1 (fun h2 c2 f2 => zWp_po (by decide) (b_cl ok w c2 ⟨by decide, by decide⟩ (fun h3 c3 f3 => ?_))))))))
  have f := (f1.t f2).t f3
  unfold sRough
  by_cases z : (celS A σ 0 0 (ndS A 2 3 (nbS A 1 99 s).2)).1 = -1
  · rw [if_pos (c := (celS A σ 0 0 (ndS A 2 3 (nbS A 1 99 s).2)).1 = -1) (t := σ) z]
    exact zWp_it z (zWp_s ⟨c3, f⟩)
  rw [if_neg (c := (celS A σ 0 0 (ndS A 2 3 (nbS A 1 99 s).2)).1 = -1) (t := σ) z]
  obtain ⟨_, x, y, x1, x2, y1, y2, e, p1, p2, p3⟩ := cel_ok (A := A) (s := ndS A 2 3 (nbS A 1 99 s).2) w ⟨by decide, by decide⟩ (cel_1 z)
  have pe : (celS A σ 0 0 (ndS A 2 3 (nbS A 1 99 s).2)).1 = y * σ 0 0 + x := by rw [e]
  rw [c3.2.2.1]
  refine zWp_nt z (zWp_po (by decide) (zWp_po (by omega) (zWp_po (by omega) (zWp_it (by rw [pe]; omega) (zWp_lt fun h4 e4 => zWp_s ?_)))))
  have t := c3.st (k := 4) (i := (celS A σ 0 0 (ndS A 2 3 (nbS A 1 99 s).2)).1) (v := (nbS A 1 99 s).1) ⟨by decide, by decide, by decide⟩
  rw [e4]
  exact ⟨t.1, f.t t.2⟩
def sWall (A : List zTk) (σ : zH) (s : zRd) : zH × zRd :=
  (if (freS A σ (nbS A 1 9999 s).2).1 = -1 then σ else zset σ 5 (freS A σ (nbS A 1 9999 s).2).1 (nbS A 1 9999 s).1, (freS A σ (nbS A 1 9999 s).2).2)
theorem fre_ok {A : List zTk} {σ : zH} {s : zRd} (w : WB σ) (h : (freS A σ s).1 ≠ -1) : (0 ≤ (freS A σ s).1 ∧ (freS A σ s).1 < nC σ) ∧ freA σ (freS A σ s).1 = true ∧ (freS A σ s).2.2.1 = 0 ∧ (freS A σ s) = celS A σ 0 0 (ndS A 2 3 s) := by
  unfold freS at h ⊢
  by_cases z : (celS A σ 0 0 (ndS A 2 3 s)).1 = -1
  · rw [if_pos z] at h; exact absurd z h
  rw [if_neg z] at h ⊢
  obtain ⟨_, x, y, x1, x2, y1, y2, e, p1, p2, p3⟩ := cel_ok (A := A) (s := ndS A 2 3 s) w ⟨by decide, by decide⟩ (cel_1 z)
  have pe : (celS A σ 0 0 (ndS A 2 3 s)).1 = y * σ 0 0 + x := by rw [e]
  by_cases t : freA σ (celS A σ 0 0 (ndS A 2 3 s)).1 = true
  · rw [if_pos t]
    exact ⟨by rw [pe]; exact ⟨p1, p2⟩, t, cel_1 z, rfl⟩
  · rw [if_neg t] at h; exact absurd rfl h
theorem q_sWall {d : Nat} {A : List zTk} {b : Int} {σ : zH} {s : zRd} {h : zH} (ok : AOk A) (w : WB σ) (c : PC A b σ s h) : zWp (m_SlopeReader_readWall (d + 5) 4 h) (fun _ h' => PC A b (sWall A σ s).1 (sWall A σ s).2 h' ∧ frP b h h') := by
  have ha := c.a
  have w1 := w.1
  rw [em_SlopeReader_readWall, show (4 + 1 : Int) = 5 from rfl]
  refine zWp_po (by decide) (zWp_po (by decide) (b_nb ok c (fun h1 c1 f1 => zWp_po (by decide) (b_fc ok w c1 (fun h2 c2 f2 => ?_)))))
  unfold sWall
  by_cases z : (freS A σ (nbS A 1 9999 s).2).1 = -1
  · rw [if_pos (c := (freS A σ (nbS A 1 9999 s).2).1 = -1) (t := σ) z]
    exact zWp_it z (zWp_s ⟨c2, f1.t f2⟩)
  rw [if_neg (c := (freS A σ (nbS A 1 9999 s).2).1 = -1) (t := σ) z]
  have p := (fre_ok w z).1
  rw [c2.2.2.1]
  refine zWp_nt z (zWp_po (by decide) (zWp_po (by omega) (zWp_po (by omega) (zWp_it (by omega) (zWp_lt fun h4 e4 => zWp_s ?_)))))
  have t := c2.st (k := 5) (i := (freS A σ (nbS A 1 9999 s).2).1) (v := (nbS A 1 9999 s).1) ⟨by decide, by decide, by decide⟩
  rw [e4]
  exact ⟨t.1, (f1.t f2).t t.2⟩
def sThaw (A : List zTk) (k : Int) (σ : zH) (s : zRd) : zH × zRd :=
  (zset (zset σ 18 k (nbS A 0 9999 s).1) 19 k (nbS A 1 99 (ndS A 2 14 (nbS A 0 9999 s).2)).1, (nbS A 1 99 (ndS A 2 14 (nbS A 0 9999 s).2)).2)
theorem q_sThaw {d : Nat} {A : List zTk} {b : Int} {σ : zH} {s : zRd} {h : zH} {k : Int} (ok : AOk A) (c : PC A b σ s h) (hk : 0 ≤ k ∧ k < 6) : zWp (m_SlopeReader_readThaw (d + 3) 4 k h) (fun _ h' => PC A b (sThaw A k σ s).1 (sThaw A k σ s).2 h' ∧ frP b h h') := by
  have ha := c.a
  rw [em_SlopeReader_readThaw, show (4 + 1 : Int) = 5 from rfl, c.2.2.1]
  refine zWp_po (by decide) (zWp_po (by omega) (zWp_po (by decide) (zWp_po (by decide) (b_nb ok c (fun h1 c1 f1 => zWp_po (by omega) (zWp_it (by omega) (zWp_lt fun h2 e2 => ?_)))))))
  have t1 := c1.st (k := 18) (i := k) (v := (nbS A 0 9999 s).1) ⟨by decide, by decide, by decide⟩
  rw [← e2] at t1
  refine zWp_po (by decide) (zWp_po (by decide) (b_ow ok t1.1 (fun h3 c3 f3 => ?_)))
  rw [c3.2.2.1]
  refine zWp_po (by decide) (zWp_po (by omega) (zWp_po (by decide) (zWp_po (by decide) (b_nb ok c3 (fun h4 c4 f4 => zWp_po (by omega) (zWp_it (by omega) (zWp_lt fun h5 e5 => zWp_s ?_)))))))
  have t2 := c4.st (k := 19) (i := k) (v := (nbS A 1 99 (ndS A 2 14 (nbS A 0 9999 s).2)).1) ⟨by decide, by decide, by decide⟩
  rw [← e5] at t2
  exact ⟨t2.1, ((f1.t t1.2).t (f3.t f4)).t t2.2⟩
def sStone (A : List zTk) (k : Int) (σ : zH) (s : zRd) : zH × zRd :=
  (fun (σ1 : zH) (s1 : zRd) => (fun (σ2 : zH) (s2 : zRd) => (fun (σ3 : zH) (s3 : zRd) => (zset σ3 15 k (freS A σ3 s3).1, (freS A σ3 s3).2)) (zset σ2 14 k (nbS A 0 9999 (ndS A 2 9 s2)).1) (nbS A 0 9999 (ndS A 2 9 s2)).2) (zset σ1 13 k (nbS A 1 999 (ndS A 2 8 s1)).1) (nbS A 1 999 (ndS A 2 8 s1)).2) (zset σ 10 k (newS A σ s).1) (newS A σ s).2
theorem q_sStone {d : Nat} {A : List zTk} {b : Int} {σ : zH} {s : zRd} {h : zH} {k : Int} (ok : AOk A) (w : WB σ) (c : PC A b σ s h) (hk : 0 ≤ k ∧ k < 10) : zWp (m_SlopeReader_readStone (d + 5) 4 k h) (fun _ h' => PC A b (sStone A k σ s).1 (sStone A k σ s).2 h' ∧ frP b h h') := by
  have ha := c.a
  have e12 : h (b + 12) 1 = b + 10 := by rw [c.2.1.g 12 (by decide), c.2.2.2 1 (by decide) (by decide)]; omega
  rw [em_SlopeReader_readStone, show (4 + 1 : Int) = 5 from rfl, c.2.2.1, e12]
  refine zWp_po (by decide) (zWp_po (by omega) (zWp_po (by omega) (zWp_it (by decide) (zWp_po (by decide) (b_nn ok w c (fun h1 c1 f1 => zWp_po (by omega) (zWp_it (by omega) (zWp_lt fun h2 e2 => ?_))))))))
  have t1 := c1.st (k := 10) (i := k) (v := (newS A σ s).1) ⟨by decide, by decide, by decide⟩
  rw [← e2] at t1
  have w1 := w.st (k := 10) (i := k) (v := (newS A σ s).1) (by decide) (by decide)
  refine zWp_po (by decide) (zWp_po (by decide) (b_ow ok t1.1 (fun h3 c3 f3 => ?_)))
  rw [c3.2.2.1]
  refine zWp_po (by decide) (zWp_po (by omega) (zWp_po (by decide) (zWp_po (by decide) (b_nb ok c3 (fun h4 c4 f4 => zWp_po (by omega) (zWp_it (by omega) (zWp_lt fun h5 e5 => ?_)))))))
  have t2 := c4.st (k := 13) (i := k) (v := (nbS A 1 999 (ndS A 2 8 (newS A σ s).2)).1) ⟨by decide, by decide, by decide⟩
  rw [← e5] at t2
  have w2 := w1.st (k := 13) (i := k) (v := (nbS A 1 999 (ndS A 2 8 (newS A σ s).2)).1) (by decide) (by decide)
  refine zWp_po (by decide) (zWp_po (by decide) (b_ow ok t2.1 (fun h6 c6 f6 => ?_)))
  rw [c6.2.2.1]
  refine zWp_po (by decide) (zWp_po (by omega) (zWp_po (by decide) (zWp_po (by decide) (b_nb ok c6 (fun h7 c7 f7 => zWp_po (by omega) (zWp_it (by omega) (zWp_lt fun h8 e8 => ?_)))))))
  have t3 := c7.st (k := 14) (i := k) (v := (nbS A 0 9999 (ndS A 2 9 (nbS A 1 999 (ndS A 2 8 (newS A σ s).2)).2)).1) ⟨by decide, by decide, by decide⟩
  rw [← e8] at t3
  have w3 := w2.st (k := 14) (i := k) (v := (nbS A 0 9999 (ndS A 2 9 (nbS A 1 999 (ndS A 2 8 (newS A σ s).2)).2)).1) (by decide) (by decide)
  rw [t3.1.2.2.1]
  refine zWp_po (by decide) (zWp_po (by omega) (zWp_po (by decide) (b_fc ok w3 t3.1 (fun h9 c9 f9 => zWp_po (by omega) (zWp_it (by omega) (zWp_lt fun h10 e10 => zWp_s ?_))))))
  have t4 := c9.st (k := 15) (i := k) (v := (freS A (zset (zset (zset σ 10 k (newS A σ s).1) 13 k (nbS A 1 999 (ndS A 2 8 (newS A σ s).2)).1) 14 k (nbS A 0 9999 (ndS A 2 9 (nbS A 1 999 (ndS A 2 8 (newS A σ s).2)).2)).1) (nbS A 0 9999 (ndS A 2 9 (nbS A 1 999 (ndS A 2 8 (newS A σ s).2)).2)).2).1) ⟨by decide, by decide, by decide⟩
  rw [← e10] at t4
  exact ⟨t4.1, (((f1.t t1.2).t (f3.t f4)).t (t2.2.t (f6.t f7))).t (t3.2.t (f9.t t4.2))⟩
def sHouse (A : List zTk) (k : Int) (σ : zH) (s : zRd) : zH × zRd :=
  (fun (σ2 : zH) (p : Int × zRd) => (if p.1 = -1 then zset σ2 17 k p.1 else zset (zset σ2 17 k p.1) 7 p.1 k, p.2)) (zset (zset σ 11 k (newS A σ s).1) 16 k (nbS A 1 999 (ndS A 2 11 (newS A σ s).2)).1) (freS A (zset (zset σ 11 k (newS A σ s).1) 16 k (nbS A 1 999 (ndS A 2 11 (newS A σ s).2)).1) (nbS A 1 999 (ndS A 2 11 (newS A σ s).2)).2)
theorem q_sHouse {d : Nat} {A : List zTk} {b : Int} {σ : zH} {s : zRd} {h : zH} {k : Int} (ok : AOk A) (w : WB σ) (c : PC A b σ s h) (hk : 0 ≤ k ∧ k < 8) : zWp (m_SlopeReader_readHouse (d + 5) 4 k h) (fun _ h' => PC A b (sHouse A k σ s).1 (sHouse A k σ s).2 h' ∧ frP b h h') := by
  have ha := c.a
  have e12 : h (b + 12) 2 = b + 11 := by rw [c.2.1.g 12 (by decide), c.2.2.2 2 (by decide) (by decide)]; omega
  rw [em_SlopeReader_readHouse, show (4 + 1 : Int) = 5 from rfl, c.2.2.1, e12]
  refine zWp_po (by decide) (zWp_po (by omega) (zWp_po (by omega) (zWp_it (by decide) (zWp_po (by decide) (b_nn ok w c (fun h1 c1 f1 => zWp_po (by omega) (zWp_it (by omega) (zWp_lt fun h2 e2 => ?_))))))))
  have t1 := c1.st (k := 11) (i := k) (v := (newS A σ s).1) ⟨by decide, by decide, by decide⟩
  rw [← e2] at t1
  have w1 := w.st (k := 11) (i := k) (v := (newS A σ s).1) (by decide) (by decide)
  refine zWp_po (by decide) (zWp_po (by decide) (b_ow ok t1.1 (fun h3 c3 f3 => ?_)))
  rw [c3.2.2.1]
  refine zWp_po (by decide) (zWp_po (by omega) (zWp_po (by decide) (zWp_po (by decide) (b_nb ok c3 (fun h4 c4 f4 => zWp_po (by omega) (zWp_it (by omega) (zWp_lt fun h5 e5 => ?_)))))))
  have t2 := c4.st (k := 16) (i := k) (v := (nbS A 1 999 (ndS A 2 11 (newS A σ s).2)).1) ⟨by decide, by decide, by decide⟩
  rw [← e5] at t2
  have w2 := w1.st (k := 16) (i := k) (v := (nbS A 1 999 (ndS A 2 11 (newS A σ s).2)).1) (by decide) (by decide)
  refine zWp_po (by decide) (b_fc ok w2 t2.1 (fun h6 c6 f6 => ?_))
  have wn := w2.1
  unfold sHouse
  generalize zset (zset σ 11 k (newS A σ s).1) 16 k (nbS A 1 999 (ndS A 2 11 (newS A σ s).2)).1 = σ2 at *
  rw [c6.2.2.1]
  refine zWp_po (by decide) (zWp_po (by omega) (zWp_po (by omega) (zWp_it (by omega) (zWp_lt fun h7 e7 => ?_))))
  have t3 := c6.st (k := 17) (i := k) (v := (freS A σ2 (nbS A 1 999 (ndS A 2 11 (newS A σ s).2)).2).1) ⟨by decide, by decide, by decide⟩
  rw [← e7] at t3
  have ff := ((f1.t t1.2).t (f3.t f4)).t ((t2.2.t f6).t t3.2)
  by_cases z : (freS A σ2 (nbS A 1 999 (ndS A 2 11 (newS A σ s).2)).2).1 = -1
  · refine zWp_it z (zWp_s ⟨?_, ff⟩)
    show PC A b (if (freS A σ2 (nbS A 1 999 (ndS A 2 11 (newS A σ s).2)).2).1 = -1 then _ else _) _ h7
    rw [if_pos z]
    exact t3.1
  · have p := (fre_ok w2 z).1
    rw [t3.1.2.2.1]
    refine zWp_nt z (zWp_po (by decide) (zWp_po (by omega) (zWp_po (by omega) (zWp_it (by omega) (zWp_lt fun h8 e8 => zWp_s ?_)))))
    have t4 := t3.1.st (k := 7) (i := (freS A σ2 (nbS A 1 999 (ndS A 2 11 (newS A σ s).2)).2).1) (v := k) ⟨by decide, by decide, by decide⟩
    rw [← e8] at t4
    refine ⟨?_, ff.t t4.2⟩
    show PC A b (if (freS A σ2 (nbS A 1 999 (ndS A 2 11 (newS A σ s).2)).2).1 = -1 then _ else _) _ h8
    rw [if_neg z]
    exact t4.1
