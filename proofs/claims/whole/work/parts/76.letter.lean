/-! letter: both alike -/
theorem nm_l5 {L : List Nat} (h : nmOk L) {k : Nat} (hk : k < 6) : pk5 0 L / 2 ^ (5 * (5 - k)) % 32 = L.getD k 0 := by
  obtain ⟨h1, h2, h3⟩ := h
  rcases L with _ | ⟨x0, L⟩
  · exact absurd h1 (by simp)
  ·
    rcases L with _ | ⟨x1, L⟩
    · skip
      have b0 := h3 x0 (by simp)
      rcases (show k = 0 ∨ k = 1 ∨ k = 2 ∨ k = 3 ∨ k = 4 ∨ k = 5 by omega) with e | e | e | e | e | e
      · subst e; rw [show 2 ^ (5 * (5 - 0)) = 33554432 from by decide]; show (x0 * 33554432 + (0)) / 33554432 % 32 = x0; omega
      · subst e; rw [show 2 ^ (5 * (5 - 1)) = 1048576 from by decide]; show (x0 * 33554432 + (0)) / 1048576 % 32 = 0; omega
      · subst e; rw [show 2 ^ (5 * (5 - 2)) = 32768 from by decide]; show (x0 * 33554432 + (0)) / 32768 % 32 = 0; omega
      · subst e; rw [show 2 ^ (5 * (5 - 3)) = 1024 from by decide]; show (x0 * 33554432 + (0)) / 1024 % 32 = 0; omega
      · subst e; rw [show 2 ^ (5 * (5 - 4)) = 32 from by decide]; show (x0 * 33554432 + (0)) / 32 % 32 = 0; omega
      · subst e; rw [show 2 ^ (5 * (5 - 5)) = 1 from by decide]; show (x0 * 33554432 + (0)) / 1 % 32 = 0; omega
    ·
      rcases L with _ | ⟨x2, L⟩
      · skip
        have b0 := h3 x0 (by simp)
        have b1 := h3 x1 (by simp)
        rcases (show k = 0 ∨ k = 1 ∨ k = 2 ∨ k = 3 ∨ k = 4 ∨ k = 5 by omega) with e | e | e | e | e | e
        · subst e; rw [show 2 ^ (5 * (5 - 0)) = 33554432 from by decide]; show (x0 * 33554432 + (x1 * 1048576 + (0))) / 33554432 % 32 = x0; omega
        · subst e; rw [show 2 ^ (5 * (5 - 1)) = 1048576 from by decide]; show (x0 * 33554432 + (x1 * 1048576 + (0))) / 1048576 % 32 = x1; omega
        · subst e; rw [show 2 ^ (5 * (5 - 2)) = 32768 from by decide]; show (x0 * 33554432 + (x1 * 1048576 + (0))) / 32768 % 32 = 0; omega
        · subst e; rw [show 2 ^ (5 * (5 - 3)) = 1024 from by decide]; show (x0 * 33554432 + (x1 * 1048576 + (0))) / 1024 % 32 = 0; omega
        · subst e; rw [show 2 ^ (5 * (5 - 4)) = 32 from by decide]; show (x0 * 33554432 + (x1 * 1048576 + (0))) / 32 % 32 = 0; omega
        · subst e; rw [show 2 ^ (5 * (5 - 5)) = 1 from by decide]; show (x0 * 33554432 + (x1 * 1048576 + (0))) / 1 % 32 = 0; omega
      ·
        rcases L with _ | ⟨x3, L⟩
        · skip
          have b0 := h3 x0 (by simp)
          have b1 := h3 x1 (by simp)
          have b2 := h3 x2 (by simp)
          rcases (show k = 0 ∨ k = 1 ∨ k = 2 ∨ k = 3 ∨ k = 4 ∨ k = 5 by omega) with e | e | e | e | e | e
          · subst e; rw [show 2 ^ (5 * (5 - 0)) = 33554432 from by decide]; show (x0 * 33554432 + (x1 * 1048576 + (x2 * 32768 + (0)))) / 33554432 % 32 = x0; omega
          · subst e; rw [show 2 ^ (5 * (5 - 1)) = 1048576 from by decide]; show (x0 * 33554432 + (x1 * 1048576 + (x2 * 32768 + (0)))) / 1048576 % 32 = x1; omega
          · subst e; rw [show 2 ^ (5 * (5 - 2)) = 32768 from by decide]; show (x0 * 33554432 + (x1 * 1048576 + (x2 * 32768 + (0)))) / 32768 % 32 = x2; omega
          · subst e; rw [show 2 ^ (5 * (5 - 3)) = 1024 from by decide]; show (x0 * 33554432 + (x1 * 1048576 + (x2 * 32768 + (0)))) / 1024 % 32 = 0; omega
          · subst e; rw [show 2 ^ (5 * (5 - 4)) = 32 from by decide]; show (x0 * 33554432 + (x1 * 1048576 + (x2 * 32768 + (0)))) / 32 % 32 = 0; omega
          · subst e; rw [show 2 ^ (5 * (5 - 5)) = 1 from by decide]; show (x0 * 33554432 + (x1 * 1048576 + (x2 * 32768 + (0)))) / 1 % 32 = 0; omega
        ·
          rcases L with _ | ⟨x4, L⟩
          · skip
            have b0 := h3 x0 (by simp)
            have b1 := h3 x1 (by simp)
            have b2 := h3 x2 (by simp)
            have b3 := h3 x3 (by simp)
            rcases (show k = 0 ∨ k = 1 ∨ k = 2 ∨ k = 3 ∨ k = 4 ∨ k = 5 by omega) with e | e | e | e | e | e
            · subst e; rw [show 2 ^ (5 * (5 - 0)) = 33554432 from by decide]; show (x0 * 33554432 + (x1 * 1048576 + (x2 * 32768 + (x3 * 1024 + (0))))) / 33554432 % 32 = x0; omega
            · subst e; rw [show 2 ^ (5 * (5 - 1)) = 1048576 from by decide]; show (x0 * 33554432 + (x1 * 1048576 + (x2 * 32768 + (x3 * 1024 + (0))))) / 1048576 % 32 = x1; omega
            · subst e; rw [show 2 ^ (5 * (5 - 2)) = 32768 from by decide]; show (x0 * 33554432 + (x1 * 1048576 + (x2 * 32768 + (x3 * 1024 + (0))))) / 32768 % 32 = x2; omega
            · subst e; rw [show 2 ^ (5 * (5 - 3)) = 1024 from by decide]; show (x0 * 33554432 + (x1 * 1048576 + (x2 * 32768 + (x3 * 1024 + (0))))) / 1024 % 32 = x3; omega
            · subst e; rw [show 2 ^ (5 * (5 - 4)) = 32 from by decide]; show (x0 * 33554432 + (x1 * 1048576 + (x2 * 32768 + (x3 * 1024 + (0))))) / 32 % 32 = 0; omega
            · subst e; rw [show 2 ^ (5 * (5 - 5)) = 1 from by decide]; show (x0 * 33554432 + (x1 * 1048576 + (x2 * 32768 + (x3 * 1024 + (0))))) / 1 % 32 = 0; omega
          ·
            rcases L with _ | ⟨x5, L⟩
            · skip
              have b0 := h3 x0 (by simp)
              have b1 := h3 x1 (by simp)
              have b2 := h3 x2 (by simp)
              have b3 := h3 x3 (by simp)
              have b4 := h3 x4 (by simp)
              rcases (show k = 0 ∨ k = 1 ∨ k = 2 ∨ k = 3 ∨ k = 4 ∨ k = 5 by omega) with e | e | e | e | e | e
              · subst e; rw [show 2 ^ (5 * (5 - 0)) = 33554432 from by decide]; show (x0 * 33554432 + (x1 * 1048576 + (x2 * 32768 + (x3 * 1024 + (x4 * 32 + (0)))))) / 33554432 % 32 = x0; omega
              · subst e; rw [show 2 ^ (5 * (5 - 1)) = 1048576 from by decide]; show (x0 * 33554432 + (x1 * 1048576 + (x2 * 32768 + (x3 * 1024 + (x4 * 32 + (0)))))) / 1048576 % 32 = x1; omega
              · subst e; rw [show 2 ^ (5 * (5 - 2)) = 32768 from by decide]; show (x0 * 33554432 + (x1 * 1048576 + (x2 * 32768 + (x3 * 1024 + (x4 * 32 + (0)))))) / 32768 % 32 = x2; omega
              · subst e; rw [show 2 ^ (5 * (5 - 3)) = 1024 from by decide]; show (x0 * 33554432 + (x1 * 1048576 + (x2 * 32768 + (x3 * 1024 + (x4 * 32 + (0)))))) / 1024 % 32 = x3; omega
              · subst e; rw [show 2 ^ (5 * (5 - 4)) = 32 from by decide]; show (x0 * 33554432 + (x1 * 1048576 + (x2 * 32768 + (x3 * 1024 + (x4 * 32 + (0)))))) / 32 % 32 = x4; omega
              · subst e; rw [show 2 ^ (5 * (5 - 5)) = 1 from by decide]; show (x0 * 33554432 + (x1 * 1048576 + (x2 * 32768 + (x3 * 1024 + (x4 * 32 + (0)))))) / 1 % 32 = 0; omega
            ·
              rcases L with _ | ⟨x6, L⟩
              · skip
                have b0 := h3 x0 (by simp)
                have b1 := h3 x1 (by simp)
                have b2 := h3 x2 (by simp)
                have b3 := h3 x3 (by simp)
                have b4 := h3 x4 (by simp)
                have b5 := h3 x5 (by simp)
                rcases (show k = 0 ∨ k = 1 ∨ k = 2 ∨ k = 3 ∨ k = 4 ∨ k = 5 by omega) with e | e | e | e | e | e
                · subst e; rw [show 2 ^ (5 * (5 - 0)) = 33554432 from by decide]; show (x0 * 33554432 + (x1 * 1048576 + (x2 * 32768 + (x3 * 1024 + (x4 * 32 + (x5 * 1 + (0))))))) / 33554432 % 32 = x0; omega
                · subst e; rw [show 2 ^ (5 * (5 - 1)) = 1048576 from by decide]; show (x0 * 33554432 + (x1 * 1048576 + (x2 * 32768 + (x3 * 1024 + (x4 * 32 + (x5 * 1 + (0))))))) / 1048576 % 32 = x1; omega
                · subst e; rw [show 2 ^ (5 * (5 - 2)) = 32768 from by decide]; show (x0 * 33554432 + (x1 * 1048576 + (x2 * 32768 + (x3 * 1024 + (x4 * 32 + (x5 * 1 + (0))))))) / 32768 % 32 = x2; omega
                · subst e; rw [show 2 ^ (5 * (5 - 3)) = 1024 from by decide]; show (x0 * 33554432 + (x1 * 1048576 + (x2 * 32768 + (x3 * 1024 + (x4 * 32 + (x5 * 1 + (0))))))) / 1024 % 32 = x3; omega
                · subst e; rw [show 2 ^ (5 * (5 - 4)) = 32 from by decide]; show (x0 * 33554432 + (x1 * 1048576 + (x2 * 32768 + (x3 * 1024 + (x4 * 32 + (x5 * 1 + (0))))))) / 32 % 32 = x4; omega
                · subst e; rw [show 2 ^ (5 * (5 - 5)) = 1 from by decide]; show (x0 * 33554432 + (x1 * 1048576 + (x2 * 32768 + (x3 * 1024 + (x4 * 32 + (x5 * 1 + (0))))))) / 1 % 32 = x5; omega
              · simp at h2
theorem nm_l8 {L : List Nat} (h : nmOk L) {k : Nat} (hk : k < L.length) : pk8 0 L / 2 ^ (8 * (L.length - 1 - k)) % 256 = L.getD k 0 + 96 := by
  obtain ⟨h1, h2, h3⟩ := h
  rcases L with _ | ⟨x0, L⟩
  · exact absurd h1 (by simp)
  ·
    rcases L with _ | ⟨x1, L⟩
    · skip
      have b0 := h3 x0 (by simp)
      have hk : k < 1 := hk
      rcases (show k = 0 by omega) with e
      · subst e; rw [show [x0].length = 1 from rfl, show 2 ^ (8 * (1 - 1 - 0)) = 1 from by decide]; show (0 * 256 + (x0 + 96)) / 1 % 256 = x0 + 96; omega
    ·
      rcases L with _ | ⟨x2, L⟩
      · skip
        have b0 := h3 x0 (by simp)
        have b1 := h3 x1 (by simp)
        have hk : k < 2 := hk
        rcases (show k = 0 ∨ k = 1 by omega) with e | e
        · subst e; rw [show [x0, x1].length = 2 from rfl, show 2 ^ (8 * (2 - 1 - 0)) = 256 from by decide]; show ((0 * 256 + (x0 + 96)) * 256 + (x1 + 96)) / 256 % 256 = x0 + 96; omega
        · subst e; rw [show [x0, x1].length = 2 from rfl, show 2 ^ (8 * (2 - 1 - 1)) = 1 from by decide]; show ((0 * 256 + (x0 + 96)) * 256 + (x1 + 96)) / 1 % 256 = x1 + 96; omega
      ·
        rcases L with _ | ⟨x3, L⟩
        · skip
          have b0 := h3 x0 (by simp)
          have b1 := h3 x1 (by simp)
          have b2 := h3 x2 (by simp)
          have hk : k < 3 := hk
          rcases (show k = 0 ∨ k = 1 ∨ k = 2 by omega) with e | e | e
          · subst e; rw [show [x0, x1, x2].length = 3 from rfl, show 2 ^ (8 * (3 - 1 - 0)) = 65536 from by decide]; show (((0 * 256 + (x0 + 96)) * 256 + (x1 + 96)) * 256 + (x2 + 96)) / 65536 % 256 = x0 + 96; omega
          · subst e; rw [show [x0, x1, x2].length = 3 from rfl, show 2 ^ (8 * (3 - 1 - 1)) = 256 from by decide]; show (((0 * 256 + (x0 + 96)) * 256 + (x1 + 96)) * 256 + (x2 + 96)) / 256 % 256 = x1 + 96; omega
          · subst e; rw [show [x0, x1, x2].length = 3 from rfl, show 2 ^ (8 * (3 - 1 - 2)) = 1 from by decide]; show (((0 * 256 + (x0 + 96)) * 256 + (x1 + 96)) * 256 + (x2 + 96)) / 1 % 256 = x2 + 96; omega
        ·
          rcases L with _ | ⟨x4, L⟩
          · skip
            have b0 := h3 x0 (by simp)
            have b1 := h3 x1 (by simp)
            have b2 := h3 x2 (by simp)
            have b3 := h3 x3 (by simp)
            have hk : k < 4 := hk
            rcases (show k = 0 ∨ k = 1 ∨ k = 2 ∨ k = 3 by omega) with e | e | e | e
            · subst e; rw [show [x0, x1, x2, x3].length = 4 from rfl, show 2 ^ (8 * (4 - 1 - 0)) = 16777216 from by decide]; show ((((0 * 256 + (x0 + 96)) * 256 + (x1 + 96)) * 256 + (x2 + 96)) * 256 + (x3 + 96)) / 16777216 % 256 = x0 + 96; omega
            · subst e; rw [show [x0, x1, x2, x3].length = 4 from rfl, show 2 ^ (8 * (4 - 1 - 1)) = 65536 from by decide]; show ((((0 * 256 + (x0 + 96)) * 256 + (x1 + 96)) * 256 + (x2 + 96)) * 256 + (x3 + 96)) / 65536 % 256 = x1 + 96; omega
            · subst e; rw [show [x0, x1, x2, x3].length = 4 from rfl, show 2 ^ (8 * (4 - 1 - 2)) = 256 from by decide]; show ((((0 * 256 + (x0 + 96)) * 256 + (x1 + 96)) * 256 + (x2 + 96)) * 256 + (x3 + 96)) / 256 % 256 = x2 + 96; omega
            · subst e; rw [show [x0, x1, x2, x3].length = 4 from rfl, show 2 ^ (8 * (4 - 1 - 3)) = 1 from by decide]; show ((((0 * 256 + (x0 + 96)) * 256 + (x1 + 96)) * 256 + (x2 + 96)) * 256 + (x3 + 96)) / 1 % 256 = x3 + 96; omega
          ·
            rcases L with _ | ⟨x5, L⟩
            · skip
              have b0 := h3 x0 (by simp)
              have b1 := h3 x1 (by simp)
              have b2 := h3 x2 (by simp)
              have b3 := h3 x3 (by simp)
              have b4 := h3 x4 (by simp)
              have hk : k < 5 := hk
              rcases (show k = 0 ∨ k = 1 ∨ k = 2 ∨ k = 3 ∨ k = 4 by omega) with e | e | e | e | e
              · subst e; rw [show [x0, x1, x2, x3, x4].length = 5 from rfl, show 2 ^ (8 * (5 - 1 - 0)) = 4294967296 from by decide]; show (((((0 * 256 + (x0 + 96)) * 256 + (x1 + 96)) * 256 + (x2 + 96)) * 256 + (x3 + 96)) * 256 + (x4 + 96)) / 4294967296 % 256 = x0 + 96; omega
              · subst e; rw [show [x0, x1, x2, x3, x4].length = 5 from rfl, show 2 ^ (8 * (5 - 1 - 1)) = 16777216 from by decide]; show (((((0 * 256 + (x0 + 96)) * 256 + (x1 + 96)) * 256 + (x2 + 96)) * 256 + (x3 + 96)) * 256 + (x4 + 96)) / 16777216 % 256 = x1 + 96; omega
              · subst e; rw [show [x0, x1, x2, x3, x4].length = 5 from rfl, show 2 ^ (8 * (5 - 1 - 2)) = 65536 from by decide]; show (((((0 * 256 + (x0 + 96)) * 256 + (x1 + 96)) * 256 + (x2 + 96)) * 256 + (x3 + 96)) * 256 + (x4 + 96)) / 65536 % 256 = x2 + 96; omega
              · subst e; rw [show [x0, x1, x2, x3, x4].length = 5 from rfl, show 2 ^ (8 * (5 - 1 - 3)) = 256 from by decide]; show (((((0 * 256 + (x0 + 96)) * 256 + (x1 + 96)) * 256 + (x2 + 96)) * 256 + (x3 + 96)) * 256 + (x4 + 96)) / 256 % 256 = x3 + 96; omega
              · subst e; rw [show [x0, x1, x2, x3, x4].length = 5 from rfl, show 2 ^ (8 * (5 - 1 - 4)) = 1 from by decide]; show (((((0 * 256 + (x0 + 96)) * 256 + (x1 + 96)) * 256 + (x2 + 96)) * 256 + (x3 + 96)) * 256 + (x4 + 96)) / 1 % 256 = x4 + 96; omega
            ·
              rcases L with _ | ⟨x6, L⟩
              · skip
                have b0 := h3 x0 (by simp)
                have b1 := h3 x1 (by simp)
                have b2 := h3 x2 (by simp)
                have b3 := h3 x3 (by simp)
                have b4 := h3 x4 (by simp)
                have b5 := h3 x5 (by simp)
                have hk : k < 6 := hk
                rcases (show k = 0 ∨ k = 1 ∨ k = 2 ∨ k = 3 ∨ k = 4 ∨ k = 5 by omega) with e | e | e | e | e | e
                · subst e; rw [show [x0, x1, x2, x3, x4, x5].length = 6 from rfl, show 2 ^ (8 * (6 - 1 - 0)) = 1099511627776 from by decide]; show ((((((0 * 256 + (x0 + 96)) * 256 + (x1 + 96)) * 256 + (x2 + 96)) * 256 + (x3 + 96)) * 256 + (x4 + 96)) * 256 + (x5 + 96)) / 1099511627776 % 256 = x0 + 96; omega
                · subst e; rw [show [x0, x1, x2, x3, x4, x5].length = 6 from rfl, show 2 ^ (8 * (6 - 1 - 1)) = 4294967296 from by decide]; show ((((((0 * 256 + (x0 + 96)) * 256 + (x1 + 96)) * 256 + (x2 + 96)) * 256 + (x3 + 96)) * 256 + (x4 + 96)) * 256 + (x5 + 96)) / 4294967296 % 256 = x1 + 96; omega
                · subst e; rw [show [x0, x1, x2, x3, x4, x5].length = 6 from rfl, show 2 ^ (8 * (6 - 1 - 2)) = 16777216 from by decide]; show ((((((0 * 256 + (x0 + 96)) * 256 + (x1 + 96)) * 256 + (x2 + 96)) * 256 + (x3 + 96)) * 256 + (x4 + 96)) * 256 + (x5 + 96)) / 16777216 % 256 = x2 + 96; omega
                · subst e; rw [show [x0, x1, x2, x3, x4, x5].length = 6 from rfl, show 2 ^ (8 * (6 - 1 - 3)) = 65536 from by decide]; show ((((((0 * 256 + (x0 + 96)) * 256 + (x1 + 96)) * 256 + (x2 + 96)) * 256 + (x3 + 96)) * 256 + (x4 + 96)) * 256 + (x5 + 96)) / 65536 % 256 = x3 + 96; omega
                · subst e; rw [show [x0, x1, x2, x3, x4, x5].length = 6 from rfl, show 2 ^ (8 * (6 - 1 - 4)) = 256 from by decide]; show ((((((0 * 256 + (x0 + 96)) * 256 + (x1 + 96)) * 256 + (x2 + 96)) * 256 + (x3 + 96)) * 256 + (x4 + 96)) * 256 + (x5 + 96)) / 256 % 256 = x4 + 96; omega
                · subst e; rw [show [x0, x1, x2, x3, x4, x5].length = 6 from rfl, show 2 ^ (8 * (6 - 1 - 5)) = 1 from by decide]; show ((((((0 * 256 + (x0 + 96)) * 256 + (x1 + 96)) * 256 + (x2 + 96)) * 256 + (x3 + 96)) * 256 + (x4 + 96)) * 256 + (x5 + 96)) / 1 % 256 = x5 + 96; omega
              · simp at h2
theorem nm_b8 {L : List Nat} (h : nmOk L) : pk8 0 L < 256 ^ L.length ∧ 256 ^ (L.length - 1) ≤ pk8 0 L := by
  obtain ⟨h1, h2, h3⟩ := h
  rcases L with _ | ⟨x0, L⟩
  · exact absurd h1 (by simp)
  ·
    rcases L with _ | ⟨x1, L⟩
    · skip
      have b0 := h3 x0 (by simp)
      rw [show [x0].length = 1 from rfl, show 256 ^ 1 = 256 from by decide, show 256 ^ (1 - 1) = 1 from by decide]; show (0 * 256 + (x0 + 96)) < 256 ∧ 1 ≤ (0 * 256 + (x0 + 96)); omega
    ·
      rcases L with _ | ⟨x2, L⟩
      · skip
        have b0 := h3 x0 (by simp)
        have b1 := h3 x1 (by simp)
        rw [show [x0, x1].length = 2 from rfl, show 256 ^ 2 = 65536 from by decide, show 256 ^ (2 - 1) = 256 from by decide]; show ((0 * 256 + (x0 + 96)) * 256 + (x1 + 96)) < 65536 ∧ 256 ≤ ((0 * 256 + (x0 + 96)) * 256 + (x1 + 96)); omega
      ·
        rcases L with _ | ⟨x3, L⟩
        · skip
          have b0 := h3 x0 (by simp)
          have b1 := h3 x1 (by simp)
          have b2 := h3 x2 (by simp)
          rw [show [x0, x1, x2].length = 3 from rfl, show 256 ^ 3 = 16777216 from by decide, show 256 ^ (3 - 1) = 65536 from by decide]; show (((0 * 256 + (x0 + 96)) * 256 + (x1 + 96)) * 256 + (x2 + 96)) < 16777216 ∧ 65536 ≤ (((0 * 256 + (x0 + 96)) * 256 + (x1 + 96)) * 256 + (x2 + 96)); omega
        ·
          rcases L with _ | ⟨x4, L⟩
          · skip
            have b0 := h3 x0 (by simp)
            have b1 := h3 x1 (by simp)
            have b2 := h3 x2 (by simp)
            have b3 := h3 x3 (by simp)
            rw [show [x0, x1, x2, x3].length = 4 from rfl, show 256 ^ 4 = 4294967296 from by decide, show 256 ^ (4 - 1) = 16777216 from by decide]; show ((((0 * 256 + (x0 + 96)) * 256 + (x1 + 96)) * 256 + (x2 + 96)) * 256 + (x3 + 96)) < 4294967296 ∧ 16777216 ≤ ((((0 * 256 + (x0 + 96)) * 256 + (x1 + 96)) * 256 + (x2 + 96)) * 256 + (x3 + 96)); omega
          ·
            rcases L with _ | ⟨x5, L⟩
            · skip
              have b0 := h3 x0 (by simp)
              have b1 := h3 x1 (by simp)
              have b2 := h3 x2 (by simp)
              have b3 := h3 x3 (by simp)
              have b4 := h3 x4 (by simp)
              rw [show [x0, x1, x2, x3, x4].length = 5 from rfl, show 256 ^ 5 = 1099511627776 from by decide, show 256 ^ (5 - 1) = 4294967296 from by decide]; show (((((0 * 256 + (x0 + 96)) * 256 + (x1 + 96)) * 256 + (x2 + 96)) * 256 + (x3 + 96)) * 256 + (x4 + 96)) < 1099511627776 ∧ 4294967296 ≤ (((((0 * 256 + (x0 + 96)) * 256 + (x1 + 96)) * 256 + (x2 + 96)) * 256 + (x3 + 96)) * 256 + (x4 + 96)); omega
            ·
              rcases L with _ | ⟨x6, L⟩
              · skip
                have b0 := h3 x0 (by simp)
                have b1 := h3 x1 (by simp)
                have b2 := h3 x2 (by simp)
                have b3 := h3 x3 (by simp)
                have b4 := h3 x4 (by simp)
                have b5 := h3 x5 (by simp)
                rw [show [x0, x1, x2, x3, x4, x5].length = 6 from rfl, show 256 ^ 6 = 281474976710656 from by decide, show 256 ^ (6 - 1) = 1099511627776 from by decide]; show ((((((0 * 256 + (x0 + 96)) * 256 + (x1 + 96)) * 256 + (x2 + 96)) * 256 + (x3 + 96)) * 256 + (x4 + 96)) * 256 + (x5 + 96)) < 281474976710656 ∧ 1099511627776 ≤ ((((((0 * 256 + (x0 + 96)) * 256 + (x1 + 96)) * 256 + (x2 + 96)) * 256 + (x3 + 96)) * 256 + (x4 + 96)) * 256 + (x5 + 96)); omega
              · simp at h2
theorem q_R_let58 {d : Nat} {k q : Int} {h : zH} : ∀ (n : Nat) {x : Nat} {m : Int}, n ≤ 6 → x < 256 ^ n → (n = 0 ∨ 256 ^ (n - 1) ≤ x) → 0 ≤ m ∧ m + n ≤ 10 → l_R_letter_58 d k q m x h = (if k < m + n then some ((.inl (w32 ((w32 ((w32 (zland (zlshr q (w32 (8 * (w32 ((w32 (m + n - 1)) - k))))) 255)) - 97)) + 1))), h) else some ((.inl 0), h)) := by
  intro n
  induction n with
  | zero =>
    intro x m hn h1 h2 hm
    have : x = 0 := by simpa using h1
    subst this
    rw [el_R_letter_58, zit_f (by rw [zlc_p]; decide)]
    rw [show m + ((0 : Nat) : Int) = m by omega]
  | succ n ih =>
    intro x m hn h1 h2 hm
    have hp : 0 < 256 ^ n := Nat.pow_pos (by decide)
    have h2' : 256 ^ n ≤ x := by
      rcases h2 with z | z
      · omega
      · exact z
    have hq : 256 ^ (n + 1) ≤ 256 ^ 6 := Nat.pow_le_pow_right (by decide) hn
    have hlt : x < 2 ^ 63 := Nat.lt_of_lt_of_le h1 (Nat.le_trans hq (by decide))
    have es : zlshr (x : Int) 8 = ((x / 256 : Nat) : Int) := by
      have := zlshr_g (a := (x : Int)) (by unfold zI64; omega) (k := 8) (by decide)
      rw [show ((8 : Nat) : Int) = 8 from rfl] at this
      rw [this, Int.natCast_ediv]
    rw [el_R_letter_58, zit_t (by rw [zlc_p]; omega), es, w32_i (by omega), ih (x := x / 256) (m := m + 1) (by omega) ?_ ?_ (by omega)]
    · rw [show m + 1 + (n : Int) = m + ((n + 1 : Nat) : Int) by omega]
    · rw [Nat.div_lt_iff_lt_mul (by decide), ← Nat.pow_succ]; exact h1
    · cases n with
      | zero => exact Or.inl rfl
      | succ n =>
        refine Or.inr ?_
        show 256 ^ n ≤ x / 256
        rw [Nat.le_div_iff_mul_le (by decide), ← Nat.pow_succ]; exact h2'
theorem nm_p5 {L : List Nat} (h : nmOk L) : pk5 0 L < 2 ^ 30 := by
  obtain ⟨h1, h2, h3⟩ := h
  rcases L with _ | ⟨x0, L⟩
  · exact absurd h1 (by simp)
  ·
    rcases L with _ | ⟨x1, L⟩
    · skip
      have b0 := h3 x0 (by simp)
      rw [show 2 ^ 30 = 1073741824 from by decide]; show x0 * 33554432 + (0) < 1073741824; omega
    ·
      rcases L with _ | ⟨x2, L⟩
      · skip
        have b0 := h3 x0 (by simp)
        have b1 := h3 x1 (by simp)
        rw [show 2 ^ 30 = 1073741824 from by decide]; show x0 * 33554432 + (x1 * 1048576 + (0)) < 1073741824; omega
      ·
        rcases L with _ | ⟨x3, L⟩
        · skip
          have b0 := h3 x0 (by simp)
          have b1 := h3 x1 (by simp)
          have b2 := h3 x2 (by simp)
          rw [show 2 ^ 30 = 1073741824 from by decide]; show x0 * 33554432 + (x1 * 1048576 + (x2 * 32768 + (0))) < 1073741824; omega
        ·
          rcases L with _ | ⟨x4, L⟩
          · skip
            have b0 := h3 x0 (by simp)
            have b1 := h3 x1 (by simp)
            have b2 := h3 x2 (by simp)
            have b3 := h3 x3 (by simp)
            rw [show 2 ^ 30 = 1073741824 from by decide]; show x0 * 33554432 + (x1 * 1048576 + (x2 * 32768 + (x3 * 1024 + (0)))) < 1073741824; omega
          ·
            rcases L with _ | ⟨x5, L⟩
            · skip
              have b0 := h3 x0 (by simp)
              have b1 := h3 x1 (by simp)
              have b2 := h3 x2 (by simp)
              have b3 := h3 x3 (by simp)
              have b4 := h3 x4 (by simp)
              rw [show 2 ^ 30 = 1073741824 from by decide]; show x0 * 33554432 + (x1 * 1048576 + (x2 * 32768 + (x3 * 1024 + (x4 * 32 + (0))))) < 1073741824; omega
            ·
              rcases L with _ | ⟨x6, L⟩
              · skip
                have b0 := h3 x0 (by simp)
                have b1 := h3 x1 (by simp)
                have b2 := h3 x2 (by simp)
                have b3 := h3 x3 (by simp)
                have b4 := h3 x4 (by simp)
                have b5 := h3 x5 (by simp)
                rw [show 2 ^ 30 = 1073741824 from by decide]; show x0 * 33554432 + (x1 * 1048576 + (x2 * 32768 + (x3 * 1024 + (x4 * 32 + (x5 * 1 + (0)))))) < 1073741824; omega
              · simp at h2
/-- the letter of a name, from the class's number of it -/
def ltA (p k : Int) : Int := p / ((2 ^ (5 * (5 - k.toNat)) : Nat) : Int) % 32
theorem q_letterOf {d : Nat} {L : List Nat} {k : Int} {h : zH} (hL : nmOk L) (hk : 0 ≤ k ∧ k < 6) : m_Tokens_letterOf (d + 1) (pk5 0 L : Nat) k h = some (.inl (ltA (pk5 0 L : Nat) k), h) := by
  have hb : pk5 0 L < 2 ^ 30 := by
    have h0 := nm_l5 hL (k := 0) (by decide)
    have := nm_p5 hL
    exact this
  have ek : w32 (5 * w32 (5 - k)) = ((5 * (5 - k.toNat) : Nat) : Int) := by rw [w32_i (x := 5 - k) (by omega), w32_i (by omega)]; omega
  rw [em_Tokens_letterOf, ek, zshr_g (by unfold zI32; omega) (by omega), zand_31]
  rfl
theorem q_R_let {d : Nat} {L : List Nat} {k : Int} {h : zH} (hL : nmOk L) (hk : 0 ≤ k ∧ k < 6) : l_R_letter_58 d k (pk8 0 L : Nat) 0 (pk8 0 L : Nat) h = some (.inl (ltA (pk5 0 L : Nat) k), h) := by
  have b8 := nm_b8 hL
  have hp : 256 ^ L.length ≤ 256 ^ 6 := Nat.pow_le_pow_right (by decide) hL.2.1
  have l1 := hL.1
  have l2 := hL.2.1
  have l5 := nm_l5 hL (k := k.toNat) (by omega)
  have ev : ltA (pk5 0 L : Nat) k = ((L.getD k.toNat 0 : Nat) : Int) := by
    unfold ltA
    rw [← l5, Int.natCast_emod, Int.natCast_ediv]; rfl
  rw [q_R_let58 L.length l2 b8.1 (Or.inr b8.2) (by omega), ev]
  by_cases c : k.toNat < L.length
  · have ei : w32 (8 * w32 (w32 (0 + (L.length : Int) - 1) - k)) = ((8 * (L.length - 1 - k.toNat) : Nat) : Int) := by rw [w32_i (x := 0 + (L.length : Int) - 1) (by omega), w32_i (x := 0 + (L.length : Int) - 1 - k) (by omega), w32_i (by omega)]; omega
    have l8 := nm_l8 hL c
    have hm : L.getD k.toNat 0 ≤ 26 := by
      rw [List.getD_eq_getElem?_getD, List.getElem?_eq_getElem c]
      exact (hL.2.2 _ (List.getElem_mem c)).2
    rw [zit_t (by omega), ei, zlshr_g (by unfold zI64; omega) (by omega), zland_255]
    have e2 : ((pk8 0 L : Nat) : Int) / ((2 ^ (8 * (L.length - 1 - k.toNat)) : Nat) : Int) % 256 = ((L.getD k.toNat 0 + 96 : Nat) : Int) := by rw [← l8, Int.natCast_emod, Int.natCast_ediv]; rfl
    rw [e2, w32_i (x := ((L.getD k.toNat 0 + 96 : Nat) : Int)) (by omega), w32_i (x := ((L.getD k.toNat 0 + 96 : Nat) : Int) - 97) (by omega), w32_i (by omega)]
    congr 3
    omega
  · rw [zit_f (by omega), List.getD_eq_getElem?_getD, List.getElem?_eq_none (by omega)]
    rfl
def cntA (σ : zH) (x : Int) : Int := if x = 0 then nO σ else if x = 1 then nS σ else nHo σ
theorem q_named {d : Nat} {σ : zH} {a x : Int} {h : zH} (g : CS σ a h) (hx : 0 ≤ x ∧ x < 3) : m_Slope_named (d + 1) a x h = some (.inl (cntA σ x), h) := by
  have ha := g.a
  have e4 : h (a + 8) 4 = nO σ := g.g 8 (by decide)
  have e7 : h (a + 8) 7 = nS σ := g.g 8 (by decide)
  have e10 : h (a + 8) 10 = nHo σ := g.g 8 (by decide)
  unfold cntA
  rw [em_Slope_named, e4, e7, e10]
  rcases (show x = 0 ∨ x = 1 ∨ x = 2 by omega) with e | e | e
  · subst e; simp (disch := omega) only [zpo_t, zit_t, zit_f]; rfl
  · subst e; simp (disch := omega) only [zpo_t, zit_t, zit_f]; rfl
  · subst e; simp (disch := omega) only [zpo_t, zit_t, zit_f]; rfl
def vLetter (σ : zH) (x y k : Int) : Int := if ((0 ≤ x ∧ x < 3) ∧ (0 ≤ k ∧ k < 6)) ∧ (0 ≤ y ∧ y < cntA σ x) then ltA (σ (9 + x) y) k else -1
theorem vLetter_n {σ : zH} {x y k : Int} (h : ¬ (((0 ≤ x ∧ x < 3) ∧ (0 ≤ k ∧ k < 6)) ∧ (0 ≤ y ∧ y < cntA σ x))) : vLetter σ x y k = -1 := if_neg h
theorem vLetter_p {σ : zH} {x y k : Int} (h : ((0 ≤ x ∧ x < 3) ∧ (0 ≤ k ∧ k < 6)) ∧ (0 ≤ y ∧ y < cntA σ x)) : vLetter σ x y k = ltA (σ (9 + x) y) k := if_pos h
theorem a_letter {d : Nat} {x y k : Int} {h : zH} (i : INV h) : Alike (m_B_letter (d + 3) x y k h) (m_R_letter (d + 3) x y k) := by
  obtain ⟨σ, st, D, K, Λ, G, c, r, wk, wg⟩ := i
  have b := c.1
  have w := b.2.2.2.1
  have ha := b.2.1.a
  have ha2 := b.2.1.1
  have hO6 : nO σ ≤ 6 := w.2.1.2.1
  have hS10 : nS σ ≤ 10 := w.2.1.2.2.2.1
  have hH8 : nHo σ ≤ 8 := w.2.1.2.2.2.2.2.1
  have hcn : cntA σ x ≤ 10 := by unfold cntA; (repeat' split) <;> omega
  have hcn0 : 0 ≤ cntA σ x := by
    have h1 : 0 ≤ nO σ := w.2.1.1
    have h2 : 0 ≤ nS σ := w.2.1.2.2.1
    have h3 : 0 ≤ nHo σ := w.2.1.2.2.2.2.1
    unfold cntA; (repeat' split) <;> omega
  refine alike_e c r wk wg (V := .inl (vLetter σ x y k)) ?_ (fun h' r' => ?_)
  · rw [em_B_letter]
    refine zWp_qi q_within ?_
    by_cases c1 : 0 ≤ x ∧ x < 3
    case neg =>
      rw [if_neg c1, vLetter_n (fun z => c1 z.1.1)]
      exact zWp_it rfl (zWp_s ⟨rfl, rfl⟩)
    rw [if_pos c1]
    refine zWp_nt (by decide) (zWp_qi q_within ?_)
    by_cases c2 : 0 ≤ k ∧ k < 6
    case neg =>
      rw [if_neg c2, vLetter_n (fun z => c2 z.1.2)]
      exact zWp_it rfl (zWp_s ⟨rfl, rfl⟩)
    rw [if_pos c2]
    refine zWp_nt (by decide) (zWp_po (by omega) (zWp_qi (q_named b.2.1 c1) (zWp_qi q_within ?_)))
    by_cases c3 : 0 ≤ y ∧ y < cntA σ x
    case neg =>
      rw [if_neg c3, vLetter_n (fun z => c3 z.2)]
      exact zWp_it rfl (zWp_s ⟨rfl, rfl⟩)
    rw [if_pos c3, vLetter_p ⟨⟨c1, c2⟩, c3⟩]
    have en : h (h 0 7 + 12) x = h 0 7 + (9 + x) := by
      have := c.2.2.2.1.2.2.2.1 x c1.1 c1.2
      rcases ha2 with z | z
      · rw [z]; show h 23 x = _; rw [this.1]; omega
      · rw [z]; show h 51 x = _; rw [this.2]; omega
    have ep : h (h 0 7 + (9 + x)) y = σ (9 + x) y := b.2.1.g (9 + x) (by omega)
    obtain ⟨L, hL, l1⟩ : ∃ L, nmOk L ∧ σ (9 + x) y = (pk5 0 L : Nat) := by
      obtain ⟨n1, n2, n3⟩ := r.2.2.2.2.2
      unfold cntA at c3
      rcases (show x = 0 ∨ x = 1 ∨ x = 2 by omega) with e | e | e
      · subst e; obtain ⟨L, q1, q2, -⟩ := n1 y c3.1 c3.2; exact ⟨L, q1, q2⟩
      · subst e; obtain ⟨L, q1, q2, -⟩ := n2 y c3.1 c3.2; exact ⟨L, q1, q2⟩
      · subst e; obtain ⟨L, q1, q2, -⟩ := n3 y c3.1 c3.2; exact ⟨L, q1, q2⟩
    rw [en, ep, l1]
    exact zWp_nt (by decide) (zWp_po (by omega) (zWp_po (by omega) (zWp_it (by omega) (zWp_po (by omega) (zWp_it (by omega) (zWp_qi (q_letterOf hL c2) (zWp_s ⟨rfl, rfl⟩)))))))
  · have g := r'.1.1
    have hb := g.b
    rw [em_R_letter]
    refine zWp_qi q_R_is ?_
    by_cases c1 : 0 ≤ x ∧ x < 3
    case neg =>
      rw [if_neg (show ¬ (0 ≤ x ∧ x ≤ 2) by omega), vLetter_n (fun z => c1 z.1.1)]
      exact zWp_it rfl (zWp_s ⟨rfl, rfl⟩)
    rw [if_pos (show 0 ≤ x ∧ x ≤ 2 by omega)]
    have em : m_R_manyOf (d + 2) (h' 403 12) x h' = some (.inl (cntA σ x), h') := by
      unfold cntA
      rw [em_R_manyOf, g.2.2.2.1.1, g.2.2.2.1.2.1, g.2.2.2.1.2.2.1]
      rcases (show x = 0 ∨ x = 1 ∨ x = 2 by omega) with e | e | e
      · subst e; simp (disch := omega) only [zit_t, zit_f]; rfl
      · subst e; simp (disch := omega) only [zit_t, zit_f]; rfl
      · subst e; simp (disch := omega) only [zit_t, zit_f]; rfl
    refine zWp_nt (by decide) (zWp_qi em (zWp_qi q_R_is ?_))
    rw [w32_i (by omega)]
    by_cases c3 : 0 ≤ y ∧ y < cntA σ x
    case neg =>
      rw [if_neg (show ¬ (0 ≤ y ∧ y ≤ cntA σ x - 1) by omega), vLetter_n (fun z => c3 z.2)]
      exact zWp_it rfl (zWp_s ⟨rfl, rfl⟩)
    rw [if_pos (show 0 ≤ y ∧ y ≤ cntA σ x - 1 by omega)]
    refine zWp_nt (by decide) (zWp_qi q_R_is ?_)
    by_cases c2 : 0 ≤ k ∧ k < 6
    case neg =>
      rw [if_neg (show ¬ (0 ≤ k ∧ k ≤ 5) by omega), vLetter_n (fun z => c2 z.1.2)]
      exact zWp_it rfl (zWp_s ⟨rfl, rfl⟩)
    rw [if_pos (show 0 ≤ k ∧ k ≤ 5 by omega), vLetter_p ⟨⟨c1, c2⟩, c3⟩]
    obtain ⟨L, hL, l1, l2⟩ : ∃ L, nmOk L ∧ σ (9 + x) y = (pk5 0 L : Nat) ∧ m_R_nameOf (d + 2) (h' 403 12) x y h' = some (.inr (.inl ((pk8 0 L : Nat) : Int)), h') := by
      obtain ⟨n1, n2, n3⟩ := r'.2.2.2.2.2
      have i6 : w32 (w32 (6 * h' 403 12) + y) = 6 * h' 403 12 + y := ixw (by omega) (by omega)
      have i10 : w32 (w32 (10 * h' 403 12) + y) = 10 * h' 403 12 + y := ixw (by omega) (by omega)
      have i8 : w32 (w32 (8 * h' 403 12) + y) = 8 * h' 403 12 + y := ixw (by omega) (by omega)
      rw [em_R_nameOf, i6, i10, i8]
      unfold cntA at c3
      rcases (show x = 0 ∨ x = 1 ∨ x = 2 by omega) with e | e | e
      · subst e
        have c3 : 0 ≤ y ∧ y < nO σ := c3
        obtain ⟨L, q1, q2, q3⟩ := n1 y c3.1 c3.2
        exact ⟨L, q1, q2, by rw [zit_t rfl, zit_t (by omega), q3]⟩
      · subst e
        have c3 : 0 ≤ y ∧ y < nS σ := c3
        obtain ⟨L, q1, q2, q3⟩ := n2 y c3.1 c3.2
        exact ⟨L, q1, q2, by rw [zit_f (by decide), zit_t rfl, zit_t (by omega), q3]⟩
      · subst e
        have c3 : 0 ≤ y ∧ y < nHo σ := c3
        obtain ⟨L, q1, q2, q3⟩ := n3 y c3.1 c3.2
        exact ⟨L, q1, q2, by rw [zit_f (by decide), zit_f (by decide), zit_t (by omega), q3]⟩
    rw [l1]
    refine zWp_nt (by decide) (zWp_ql l2 ?_)
    rw [q_R_let hL c2]
    exact zWp_s ⟨rfl, rfl⟩
