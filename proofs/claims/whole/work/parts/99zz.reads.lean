/-! the reference reads a sum (0), a test (1) -/
def rdR (A : List zTk) (x : Int) (y : zLx) : zLx := if x = 0 then sumA A 8 y else testB A 8 y
theorem gd_rd {A : List zTk} (ok : AOk A) (x : Int) : Gd A (rdR A x) := by
  intro s C h1 h2
  unfold rdR
  split
  · exact gd_sum ok 8 s C h1 h2
  · exact gd_tst ok 8 s C h1 h2
theorem q_R_reads {d : Nat} {T : Int → Int} {n x : Int} {s : zRd} {C : List Int} {h : zH} (hx : x = 0 ∨ x = 1) (r : RR T n s h) (hd : effK (toks T n) s = 0) (co : CoR C h) (hC : C.length ≤ s.1) (h1 : 1 ≤ s.1) : zWp (m_R_reads (d + 6) x h) (fun _ h' => PoR T n h (rdR (toks T n) x (s, C)) h') := by
  have hn := r.1.1
  have ok := toks_ok (T := T) hn
  have hs := r.1.2.2.2.1
  have b := gd_rd ok x s C hs r.1.2.2.2.2
  have ev : Ev (toks T n) (s, C, false, [(x, 0, 1, 0, [])]) (Gq (toks T n) (rdR (toks T n) x (s, C))) := by
    unfold rdR
    rcases hx with z | z
    · rw [z, if_pos rfl]; exact ev_sum ok hs r.1.2.2.2.2
    · rw [z, if_neg (by decide)]; exact ev_test ok hs r.1.2.2.2.2 h1
  obtain ⟨N, y, e, g⟩ := ev
  have e8 : h 403 8 = 0 := by rw [r.2.1.1]; exact hd
  have go : ∀ h4, (∀ q, ¬ (50 ≤ q ∧ q ≤ 54) → h4 403 q = h 403 q) → (∀ r, r ≠ 403 → h4 r = h r) → h4 403 50 = 0 → h4 403 51 = 0 → h4 403 53 = 0 → h4 403 54 = 0 → zWp (zqv (m_R_pushes (d + 5) x h4) fun h5 => l_R_reads_43 (d + 5) 1 h5) (fun _ h' => PoR T n h (rdR (toks T n) x (s, C)) h') := by
    intro h4 t4 r4 a50 a51 a53 a54
    have f4 : frLr h h4 := ⟨fun r hr => r4 r (by omega), fun q hq => t4 q (by omega), fun r i hr _ => by rw [r4 r (by omega)]⟩
    refine zWp_bv (q_R_ps (d := d + 4) (F := []) (kd := x) ⟨a50, a53, True.intro⟩ (by decide)) (fun _ h5 u => ?_)
    have l5 : RL0 T n (s, C, false, [(x, 0, 1, 0, [])]) h5 := by
      refine ⟨r.fr (fun q q1 q2 => by rw [u.2.2.1 q (by omega), t4 q (by omega)]) (by rw [u.2.1 404 (by decide), r4 404 (by decide)]), co.fr (by rw [u.2.2.1 43 (by decide), t4 43 (by decide)]) (by rw [u.2.2.1 44 (by decide), t4 44 (by decide)]) (by rw [u.2.1 433 (by decide), r4 433 (by decide)]) (by rw [u.2.1 434 (by decide), r4 434 (by decide)]), u.1 0 h5 (fun _ _ => rfl) (fun _ _ => rfl) (fun w => by omega), ?_⟩
      show h5 403 51 = ((0 + 1 : Nat) : Int) - 1
      rw [u.2.2.1 51 (by decide), a51]
      rfl
    have iv : IV T n (s, C, false, [(x, 0, 1, 0, [])]) := by
      refine ⟨⟨by show C.length + (0 + 0) + (0 + 1) ≤ s.1 + 1; omega, by show 0 + 1 ≤ 9; omega⟩, ⟨FI.nw (fun w => by omega), fun w => (nomatch w), fun w => absurd (show 2 ≤ x from w) (by omega), True.intro⟩, ?_, fun _ => ?_⟩
      · have := (ok.2.2 s.1 hs).1
        show 4 * ((0 + 0 : Nat) : Int) ≤ _
        dsimp only
        omega
      · have := (ok.2.2 s.1 hs).1
        show 4 * ((0 + 0 : Nat) : Int) ≤ _
        dsimp only
        omega
    refine zWp_m (q_R_loop (d := d) hn.1 ok N _ y h5 e l5 (by rw [u.2.2.1 54 (by decide), a54]; rfl) hd iv) (fun _ h6 v => ?_)
    have fr := (f4.t u.2.2.2.2).t v.2.1
    by_cases k : effK (toks T n) (rdR (toks T n) x (s, C)).1 = 0
    · have ey := g.1 k
      rw [ey] at v
      exact ⟨v.1, fr, v.2.2⟩
    · have ey := g.2 k
      exact ⟨v.1.dd (by rw [ey.1]; exact k) ey.1.symm ey.2.symm b.1.1 b.1.2, fr, fun w => absurd w k⟩
  rw [em_R_reads]
  refine zWp_nt (by omega) (zWp_lt fun h1 e1 => zWp_lt fun h2 e2 => zWp_lt fun h3 e3 => zWp_lt fun h4 e4 => ?_)
  have g4 := go h4 (fun q hq => by rw [e4, zset_j (by omega), e3, zset_j (by omega), e2, zset_j (by omega), e1, zset_j (by omega)]) (fun r hr => by rw [e4, zset_n hr, e3, zset_n hr, e2, zset_n hr, e1, zset_n hr]) (by rw [e4, zset_j (by decide), e3, zset_j (by decide), e2, zset_j (by decide), e1, zset_e]) (by rw [e4, zset_j (by decide), e3, zset_j (by decide), e2, zset_e]) (by rw [e4, zset_j (by decide), e3, zset_e]) (by rw [e4, zset_e])
  rcases hx with z | z
  · rw [z] at g4 ⊢
    exact zWp_it rfl g4
  · rw [z] at g4 ⊢
    exact zWp_nt (by decide) g4
theorem q_R_readsD {d : Nat} {T : Int → Int} {n x : Int} {s : zRd} {h : zH} (r : RR T n s h) (hd : effK (toks T n) s ≠ 0) : zWp (m_R_reads (d + 1) x h) (fun _ h' => h' = h) := by
  have g := eff_g (A := toks T n) r.1.2.2.2.2
  rw [em_R_reads]
  exact zWp_it (by rw [r.2.1.1]; omega) (zWp_s rfl)
