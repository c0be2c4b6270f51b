/-! the class clears the slope that it reads into -/
theorem q_sclear {d : Nat} {b : Int} {h : zH} (hb : b = 11 ∨ b = 39) (h12 : ∀ i, 0 ≤ i → i < 3 → h (b + 12) i = b + 9 + i) : zWp (m_Slope_clear (d + 2) b h) (fun _ h' => ∃ σ, CS σ b h' ∧ Z0 σ ∧ (∀ i, 0 ≤ i → i < 3 → σ 12 i = b + 9 + i) ∧ (∀ r, ¬ (b ≤ r ∧ r ≤ b + 21) → h' r = h r) ∧ h' (b + 21) 1 = 0 ∧ h' (b + 21) 5 = 0) := by
  have b0 : 0 ≤ b := by omega
  rw [em_Slope_clear]
  refine zWp_po b0 (zWp_lt fun h1 e1 => zWp_po b0 (zWp_lt fun h2 e2 => zWp_po b0 ?_))
  have a0 : h2 b 0 = 0 ∧ h2 b 1 = 0 := ⟨by rw [e2, zset_j (by decide), e1, zset_e], by rw [e2, zset_e]⟩
  have r2 : ∀ r, r ≠ b → h2 r = h r := fun r hr => by rw [e2, zset_n hr, e1, zset_n hr]
  refine zWp_bv (q_fill (d := d) (by omega) (by decide)) (fun _ h3 u3 => zWp_po b0 (zWp_bv (q_fill (d := d) (by omega) (by decide)) (fun _ h4 u4 => zWp_po b0 (zWp_bv (q_fill (d := d) (by omega) (by decide)) (fun _ h5 u5 => zWp_po b0 (zWp_bv (q_fill (d := d) (by omega) (by decide)) (fun _ h6 u6 => zWp_po b0 (zWp_bv (q_fill (d := d) (by omega) (by decide)) (fun _ h7 u7 => zWp_po b0 (zWp_bv (q_fill (d := d) (by omega) (by decide)) (fun _ h8 u8 => zWp_po b0 (zWp_po (by omega) ?_))))))))))))
  rw [em_LawBook_clear]
  refine zWp_bv (P := fun _ h' => h' = zset (zset h8 (b + 21) 1 0) (b + 21) 5 0) (zWp_po (by omega) (zWp_lt fun h9 e9 => zWp_po (by omega) (zWp_lt fun h10 e10 => zWp_s (by rw [e10, e9])))) (fun _ h10 e10 => zWp_s ⟨fun k i => h10 (b + k) i, ⟨hb, fun _ _ _ _ => rfl⟩, ⟨⟨?_, ?_⟩, fun j j0 j1 => ?_, fun c c0 c1 => ⟨?_, ?_, ?_, ?_, ?_⟩⟩, fun i i0 i1 => ?_, fun r hr => ?_, ?_, ?_⟩)
  · show h10 (b + 0) 0 = 0
    rw [Int.add_zero, e10, zset_o (by omega), zset_o (by omega), u8.2 b (by omega), u7.2 b (by omega), u6.2 b (by omega), u5.2 b (by omega), u4.2 b (by omega), u3.2 b (by omega)]
    exact a0.1
  · show h10 (b + 0) 1 = 0
    rw [Int.add_zero, e10, zset_o (by omega), zset_o (by omega), u8.2 b (by omega), u7.2 b (by omega), u6.2 b (by omega), u5.2 b (by omega), u4.2 b (by omega), u3.2 b (by omega)]
    exact a0.2
  · show h10 (b + 8) j = 0
    rw [e10, zset_o (by omega), zset_o (by omega)]
    exact u8.1 j j0 j1
  · show h10 (b + 1) c = 0
    rw [e10, zset_o (by omega), zset_o (by omega), u8.2 _ (by omega), u7.2 _ (by omega), u6.2 _ (by omega), u5.2 _ (by omega), u4.2 _ (by omega)]
    exact u3.1 c c0 c1
  · show h10 (b + 4) c = 0
    rw [e10, zset_o (by omega), zset_o (by omega), u8.2 _ (by omega), u7.2 _ (by omega), u6.2 _ (by omega), u5.2 _ (by omega)]
    exact u4.1 c c0 c1
  · show h10 (b + 5) c = 0
    rw [e10, zset_o (by omega), zset_o (by omega), u8.2 _ (by omega), u7.2 _ (by omega), u6.2 _ (by omega)]
    exact u5.1 c c0 c1
  · show h10 (b + 6) c = -1
    rw [e10, zset_o (by omega), zset_o (by omega), u8.2 _ (by omega), u7.2 _ (by omega)]
    exact u6.1 c c0 c1
  · show h10 (b + 7) c = -1
    rw [e10, zset_o (by omega), zset_o (by omega), u8.2 _ (by omega)]
    exact u7.1 c c0 c1
  · show h10 (b + 12) i = _
    rw [e10, zset_o (by omega), zset_o (by omega), u8.2 _ (by omega), u7.2 _ (by omega), u6.2 _ (by omega), u5.2 _ (by omega), u4.2 _ (by omega), u3.2 _ (by omega), r2 _ (by omega)]
    exact h12 i i0 i1
  · rw [e10, zset_n (by omega), zset_n (by omega), u8.2 _ (by omega), u7.2 _ (by omega), u6.2 _ (by omega), u5.2 _ (by omega), u4.2 _ (by omega), u3.2 _ (by omega), r2 _ (by omega)]
  · rw [e10, zset_j (by decide), zset_e]
  · rw [e10, zset_e]
