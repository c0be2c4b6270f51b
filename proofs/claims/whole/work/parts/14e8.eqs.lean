set_option maxRecDepth 100000 in
set_option maxHeartbeats 4000000 in
theorem em_R_whence (d : Nat) (x1 x2 : Int) (h : zH) : m_R_whence (d + 1) x1 x2 h = (zqi (m_R_isThere d x1 h) fun a2 h1 => (if a2 = 0 then some ((.inl (-1)), h1) else (if x2 < (-1) then some ((.inl (-1)), h1) else (if 0 ≤ x1 ∧ x1 < ((350 : Nat) : Int) then (l_R_whence_28 d x1 x2 (h1 444 x1) 0 0 h1) else none)))) := (zF_at zMT_334).trans ((zgo_eq (zrn_ext d)).trans rfl)
set_option maxRecDepth 100000 in
set_option maxHeartbeats 4000000 in
theorem el_R_whence_28 (d : Nat) (x1 x2 x3 x4 x5 : Int) (h : zH) : l_R_whence_28 d x1 x2 x3 x4 x5 h = (zqi (m_R_cells d h) fun a2 h1 => (if x5 < a2 then (if x5 = x3 then (l_R_whence_28 d x1 x2 x3 x4 (w32 (x5 + 1)) h1) else (zqi (m_R_isFree d 0 x5 h1) fun a4 h3 => (if a4 = 0 then (l_R_whence_28 d x1 x2 x3 x4 (w32 (x5 + 1)) h3) else (if 0 ≤ x5 ∧ x5 < ((2100 : Nat) : Int) then (if h3 450 x5 = 1 then (l_R_whence_28 d x1 x2 x3 x4 (w32 (x5 + 1)) h3) else (zqv (m_R_copies d 1 0 h3) fun h5 => (zqv (m_R_forgets d h5) fun h6 => (if 0 ≤ w32 (10 + x1) ∧ w32 (10 + x1) < ((350 : Nat) : Int) then (zlt (zset h6 444 (w32 (10 + x1)) x5) fun h7 => (zqi (m_R_rolling d 1 x1 h7) fun a9 h8 => (if 0 ≤ w32 (10 + x1) ∧ w32 (10 + x1) < ((350 : Nat) : Int) then (if h8 444 (w32 (10 + x1)) = x3 then (if h8 403 74 = 0 then (if a9 = (-1) then (l_R_whence_146 d x1 x2 x3 x4 x5 1 0 h8) else (zqi (m_R_starts d 1 a9 (h8 403 80) h8) fun a11 h10 => (if a11 = 0 then (l_R_whence_146 d x1 x2 x3 x4 x5 1 0 h10) else (l_R_whence_146 d x1 x2 x3 x4 x5 0 0 h10)))) else (l_R_whence_146 d x1 x2 x3 x4 x5 0 0 h8)) else (l_R_whence_146 d x1 x2 x3 x4 x5 0 0 h8)) else none))) else none)))) else none)))) else (if x2 = (-1) then some ((.inl x4), h1) else some ((.inl (-1)), h1)))) := (zgo_eq (zrn_ext d)).trans rfl
set_option maxRecDepth 100000 in
set_option maxHeartbeats 4000000 in
theorem el_R_whence_146 (d : Nat) (x1 x2 x3 x4 x5 x7 x8 : Int) (h : zH) : l_R_whence_146 d x1 x2 x3 x4 x5 x7 x8 h = (zqi (m_R_cells d h) fun a2 h1 => (if x8 < a2 then (if x7 = 0 then (l_R_whence_146 d x1 x2 x3 x4 x5 0 (w32 (x8 + 1)) h1) else (if 0 ≤ w32 (60 + x8) ∧ w32 (60 + x8) < ((2100 : Nat) : Int) then (if 0 ≤ x8 ∧ x8 < ((2100 : Nat) : Int) then (if h1 448 (w32 (60 + x8)) = h1 448 x8 then (l_R_whence_146 d x1 x2 x3 x4 x5 1 (w32 (x8 + 1)) h1) else (l_R_whence_146 d x1 x2 x3 x4 x5 0 (w32 (x8 + 1)) h1)) else none) else none)) else (if x7 = 0 then (l_R_whence_28 d x1 x2 x3 x4 (w32 (x5 + 1)) h1) else (if x4 = x2 then some ((.inl x5), h1) else (l_R_whence_28 d x1 x2 x3 (w32 (x4 + 1)) (w32 (x5 + 1)) h1))))) := (zgo_eq (zrn_ext d)).trans rfl
set_option maxRecDepth 100000 in
set_option maxHeartbeats 4000000 in
theorem em_R_leans (d : Nat) (x1 x2 : Int) (h : zH) : m_R_leans (d + 1) x1 x2 h = (zqi (m_R_isStone d x1 h) fun a2 h1 => (if a2 = 0 then some ((.inl (-1)), h1) else (zqi (m_R_isStone d x2 h1) fun a4 h3 => (if a4 = 0 then some ((.inl (-1)), h3) else (l_R_leans_20 d x2 x1 h3))))) := (zF_at zMT_335).trans ((zgo_eq (zrn_ext d)).trans rfl)
set_option maxRecDepth 100000 in
set_option maxHeartbeats 4000000 in
theorem el_R_leans_20 (d : Nat) (x2 x3 : Int) (h : zH) : l_R_leans_20 d x2 x3 h = (if x3 = (-1) then some ((.inl 0), h) else (if 0 ≤ x3 ∧ x3 < ((350 : Nat) : Int) then (if h 444 x3 = (-1) then (l_R_leans_66 d x2 (-1) h) else (if 0 ≤ h 444 x3 ∧ h 444 x3 < ((60 : Nat) : Int) then (if h 454 (h 444 x3) = (-1) then (l_R_leans_66 d x2 (-1) h) else (if 0 ≤ h 444 x3 ∧ h 444 x3 < ((60 : Nat) : Int) then (zqi (m_R_stoneAt d 0 (h 454 (h 444 x3)) h) fun a2 h1 => (l_R_leans_66 d x2 a2 h1)) else none)) else none)) else none)) := (zgo_eq (zrn_ext d)).trans rfl
set_option maxRecDepth 100000 in
set_option maxHeartbeats 4000000 in
theorem el_R_leans_66 (d : Nat) (x2 s0 : Int) (h : zH) : l_R_leans_66 d x2 s0 h = (if s0 = x2 then some ((.inl 1), h) else (l_R_leans_20 d x2 s0 h)) := (zgo_eq (zrn_ext d)).trans rfl
set_option maxRecDepth 100000 in
set_option maxHeartbeats 4000000 in
theorem em_R_isQuiet (d : Nat) (x1 : Int) (h : zH) : m_R_isQuiet (d + 1) x1 h = (l_R_isQuiet_2 d x1 0 h) := (zF_at zMT_336).trans ((zgo_eq (zrn_ext d)).trans rfl)
set_option maxRecDepth 100000 in
set_option maxHeartbeats 4000000 in
theorem el_R_isQuiet_2 (d : Nat) (x1 x2 : Int) (h : zH) : l_R_isQuiet_2 d x1 x2 h = (if 0 ≤ h 403 12 ∧ h 403 12 < ((2 : Nat) : Int) then (if x2 < h 415 (h 403 12) then (zqi (m_R_starts d x1 x2 0 h) fun a2 h1 => (if a2 = 0 then (l_R_isQuiet_2 d x1 (w32 (x2 + 1)) h1) else (zqi (m_R_isHeld d x1 x2 h1) fun a4 h3 => (if a4 = 0 then some ((.inl 0), h3) else (l_R_isQuiet_2 d x1 (w32 (x2 + 1)) h3))))) else some ((.inl 1), h)) else none) := (zgo_eq (zrn_ext d)).trans rfl
set_option maxRecDepth 100000 in
set_option maxHeartbeats 4000000 in
theorem em_R_isQuarried (d : Nat) (h : zH) : m_R_isQuarried (d + 1) h = (l_R_isQuarried_2 d 0 h) := (zF_at zMT_337).trans ((zgo_eq (zrn_ext d)).trans rfl)
set_option maxRecDepth 100000 in
set_option maxHeartbeats 4000000 in
theorem el_R_isQuarried_2 (d : Nat) (x1 : Int) (h : zH) : l_R_isQuarried_2 d x1 h = (if 0 ≤ h 403 12 ∧ h 403 12 < ((2 : Nat) : Int) then (if x1 < h 415 (h 403 12) then (if 0 ≤ x1 ∧ x1 < ((350 : Nat) : Int) then (if 0 ≤ w32 (10 + x1) ∧ w32 (10 + x1) < ((350 : Nat) : Int) then (zlt (zset h 444 (w32 (10 + x1)) (h 444 x1)) fun h1 => (l_R_isQuarried_2 d (w32 (x1 + 1)) h1)) else none) else none) else (l_R_isQuarried_38 d 0 h)) else none) := (zgo_eq (zrn_ext d)).trans rfl
set_option maxRecDepth 100000 in
set_option maxHeartbeats 4000000 in
theorem el_R_isQuarried_38 (d : Nat) (x1 : Int) (h : zH) : l_R_isQuarried_38 d x1 h = (if x1 < h 403 86 then (if 0 ≤ x1 ∧ x1 < ((6 : Nat) : Int) then (if 0 ≤ h 459 x1 ∧ h 459 x1 < ((6 : Nat) : Int) then (if 0 ≤ w32 (10 + (h 457 (h 459 x1))) ∧ w32 (10 + (h 457 (h 459 x1))) < ((350 : Nat) : Int) then (zlt (zset h 444 (w32 (10 + (h 457 (h 459 x1)))) (-1)) fun h1 => (zqi (m_R_isQuiet d 1 h1) fun a3 h2 => (if a3 = 0 then some ((.inl 0), h2) else (l_R_isQuarried_38 d (w32 (x1 + 1)) h2)))) else none) else none) else none) else some ((.inl 1), h)) := (zgo_eq (zrn_ext d)).trans rfl
set_option maxRecDepth 100000 in
set_option maxHeartbeats 4000000 in
theorem em_R_quarry (d : Nat) (x1 x2 : Int) (h : zH) : m_R_quarry (d + 1) x1 x2 h = (zqi (m_R_gathers d x1 6 h) fun a2 h1 => (if a2 = 0 then some ((.inl (-1)), h1) else (if x2 = (-1) then (l_R_quarry_31 d x2 h1) else (zqi (m_R_is d x2 0 (w32 ((h1 403 86) - 1)) h1) fun a4 h3 => (if a4 = 0 then some ((.inl (-1)), h3) else (l_R_quarry_31 d x2 h3)))))) := (zF_at zMT_338).trans ((zgo_eq (zrn_ext d)).trans rfl)
set_option maxRecDepth 100000 in
set_option maxHeartbeats 4000000 in
theorem el_R_quarry_31 (d : Nat) (x2 : Int) (h : zH) : l_R_quarry_31 d x2 h = (zqv (m_R_copies d 1 0 h) fun h1 => (zqv (m_R_firstOrder d h1) fun h2 => (l_R_quarry_46 d x2 0 1 h2))) := (zgo_eq (zrn_ext d)).trans rfl
set_option maxRecDepth 100000 in
set_option maxHeartbeats 4000000 in
theorem el_R_quarry_46 (d : Nat) (x2 x3 x4 : Int) (h : zH) : l_R_quarry_46 d x2 x3 x4 h = (if x4 = 0 then (if x2 = (-1) then some ((.inl x3), h) else some ((.inl (-1)), h)) else (zqi (m_R_isQuarried d h) fun a2 h1 => (if a2 = 0 then (zqi (m_R_nextOrder d h1) fun a4 h3 => (l_R_quarry_46 d x2 x3 a4 h3)) else (if x2 = (-1) then (zqi (m_R_nextOrder d h1) fun a6 h5 => (l_R_quarry_46 d x2 (w32 (x3 + 1)) a6 h5)) else (if 0 ≤ x2 ∧ x2 < ((6 : Nat) : Int) then (if 0 ≤ h1 459 x2 ∧ h1 459 x2 < ((6 : Nat) : Int) then some ((.inl (h1 457 (h1 459 x2))), h1) else none) else none))))) := (zgo_eq (zrn_ext d)).trans rfl
set_option maxRecDepth 100000 in
set_option maxHeartbeats 4000000 in
theorem em_R_heaviest (d : Nat) (h : zH) : m_R_heaviest (d + 1) h = (l_R_heaviest_4 d (-1) 0 h) := (zF_at zMT_339).trans ((zgo_eq (zrn_ext d)).trans rfl)
set_option maxRecDepth 100000 in
set_option maxHeartbeats 4000000 in
theorem el_R_heaviest_4 (d : Nat) (x1 x2 : Int) (h : zH) : l_R_heaviest_4 d x1 x2 h = (if 0 ≤ h 403 12 ∧ h 403 12 < ((2 : Nat) : Int) then (if x2 < h 415 (h 403 12) then (if 0 ≤ x2 ∧ x2 < ((350 : Nat) : Int) then (if h 444 x2 = (-1) then (l_R_heaviest_4 d x1 (w32 (x2 + 1)) h) else (if x1 = (-1) then (l_R_heaviest_4 d x2 (w32 (x2 + 1)) h) else (if 0 ≤ w32 ((w32 (10 * (h 403 12))) + x2) ∧ w32 ((w32 (10 * (h 403 12))) + x2) < ((20 : Nat) : Int) then (if 0 ≤ w32 ((w32 (10 * (h 403 12))) + x1) ∧ w32 ((w32 (10 * (h 403 12))) + x1) < ((20 : Nat) : Int) then (if h 417 (w32 ((w32 (10 * (h 403 12))) + x1)) < h 417 (w32 ((w32 (10 * (h 403 12))) + x2)) then (l_R_heaviest_4 d x2 (w32 (x2 + 1)) h) else (l_R_heaviest_4 d x1 (w32 (x2 + 1)) h)) else none) else none))) else none) else some ((.inl x1), h)) else none) := (zgo_eq (zrn_ext d)).trans rfl
