/-! slope: both answer alike -/
theorem a_slope {d : Nat} {h : zH} (i : INV h) : Alike (m_B_slope (d + 46) h) (m_R_slope (d + 46)) := by
  obtain ⟨σ, st, D, K, Λ, G, c, r, wk, wg⟩ := i
  have hb := c.1.2.1.1
  have c2 := c.2.1
  have cg := c.2.2.1
  have ko := c.2.2.2.1
  have h12 : ∀ i, 0 ≤ i → i < 3 → h (h 0 8 + 12) i = h 0 8 + 9 + i := by
    intro i i1 i2
    have q := ko.2.2.2.1 i i1 i2
    rcases hb with e | e
    · have e8 : h 0 8 = 39 := by omega
      rw [e8]
      show h 51 i = 39 + 9 + i
      omega
    · have e8 : h 0 8 = 11 := by omega
      rw [e8]
      show h 23 i = 11 + 9 + i
      omega
  have q := q_rdin (d := d) (T := fun j => G 1 j) (n := G 0 0) (b := h 0 8) (h := h) (by omega) h12 wg.1 cg.1.2 ko.2.2.2.2
  unfold Alike
  rw [em_B_slope, cg.1.1]
  refine zWp_bi q (fun a h1 p => zWp_lt fun h3 e3 => ?_)
  have e11 : h3 5 11 = h1 5 11 := by rw [e3, zset_o (by decide)]
  rw [e11]
  by_cases z : h1 5 11 = 0
  · refine zWp_it z ?_
    rw [e3]
    exact s_good (d := d + 35) (e := d + 43) c r wg p z
  · refine zWp_nt z ?_
    rw [q_refuse (d := d + 43) ⟨by decide, by decide⟩, zqi_s, e3]
    exact s_fail (d := d + 35) c r wk wg p z
