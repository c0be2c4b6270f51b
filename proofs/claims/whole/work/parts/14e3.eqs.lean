set_option maxRecDepth 100000 in
set_option maxHeartbeats 4000000 in
theorem em_R_drives (d : Nat) (x1 x2 x3 : Int) (h : zH) : m_R_drives (d + 1) x1 x2 x3 h = (l_R_drives_18 d x1 x2 x3 (h 403 79) 0 1 h) := (zF_at zMT_279).trans ((zgo_eq (zrn_ext d)).trans rfl)
set_option maxRecDepth 100000 in
set_option maxHeartbeats 4000000 in
theorem el_R_drives_18 (d : Nat) (x1 x4 x5 x6 x7 x8 : Int) (h : zH) : l_R_drives_18 d x1 x4 x5 x6 x7 x8 h = (if x4 = (-1) then some ((.inl x7), h) else (zqi (m_R_starts d x1 x4 x5 h) fun a2 h1 => (if a2 = 0 then some ((.inl x7), h1) else (zqi (m_R_rolling d x1 x4 h1) fun a4 h3 => (if x8 = 0 then (l_R_drives_59 d x1 x6 x7 a4 h3) else (l_R_drives_59 d x1 x6 (w32 ((h3 403 79) - x6)) a4 h3)))))) := (zgo_eq (zrn_ext d)).trans rfl
set_option maxRecDepth 100000 in
set_option maxHeartbeats 4000000 in
theorem el_R_drives_59 (d : Nat) (x1 x6 x7 x9 : Int) (h : zH) : l_R_drives_59 d x1 x6 x7 x9 h = (l_R_drives_18 d x1 x9 (h 403 80) x6 x7 0 h) := (zgo_eq (zrn_ext d)).trans rfl
set_option maxRecDepth 100000 in
set_option maxHeartbeats 4000000 in
theorem em_R_springs (d : Nat) (x1 x2 : Int) (h : zH) : m_R_springs (d + 1) x1 x2 h = (l_R_springs_2 d x1 x2 0 h) := (zF_at zMT_280).trans ((zgo_eq (zrn_ext d)).trans rfl)
set_option maxRecDepth 100000 in
set_option maxHeartbeats 4000000 in
theorem el_R_springs_2 (d : Nat) (x1 x2 x3 : Int) (h : zH) : l_R_springs_2 d x1 x2 x3 h = (if 0 ≤ h 403 12 ∧ h 403 12 < ((2 : Nat) : Int) then (if x3 < h 415 (h 403 12) then (zqi (m_R_drives d x1 x3 x2 h) fun a2 h1 => (l_R_springs_2 d x1 x2 (w32 (x3 + 1)) h1)) else some (.inl 0, h)) else none) := (zgo_eq (zrn_ext d)).trans rfl
set_option maxRecDepth 100000 in
set_option maxHeartbeats 4000000 in
theorem em_R_ring (d : Nat) (x1 : Int) (h : zH) : m_R_ring (d + 1) x1 h = some ((.inl (w32 (5 + (Int.tmod (w32 ((h 403 68) + x1)) 30)))), h) := (zF_at zMT_281).trans ((zgo_eq (zrn_ext d)).trans rfl)
set_option maxRecDepth 100000 in
set_option maxHeartbeats 4000000 in
theorem em_R_keeps (d : Nat) (h : zH) : m_R_keeps (d + 1) h = (if h 403 69 = 30 then (zlt (zset h 403 68 (Int.tmod (w32 ((h 403 68) + 1)) 30)) fun h1 => (zlt (zset h1 403 69 (w32 ((h1 403 69) - 1))) fun h2 => (l_R_keeps_32 d h2))) else (l_R_keeps_32 d h)) := (zF_at zMT_282).trans ((zgo_eq (zrn_ext d)).trans rfl)
set_option maxRecDepth 100000 in
set_option maxHeartbeats 4000000 in
theorem el_R_keeps_32 (d : Nat) (h : zH) : l_R_keeps_32 d h = (zqi (m_R_ring d (h 403 69) h) fun a2 h1 => (zqv (m_R_copies d a2 0 h1) fun h3 => (zlt (zset h3 403 69 (w32 ((h3 403 69) + 1))) fun h4 => some (.inl 0, h4)))) := (zgo_eq (zrn_ext d)).trans rfl
set_option maxRecDepth 100000 in
set_option maxHeartbeats 4000000 in
theorem em_R_undo (d : Nat) (h : zH) : m_R_undo (d + 1) h = (if h 403 69 = 0 then (zqi (m_R_refuses d 4 h) fun a6 h5 => (if a6 < 0 then some ((.inl 0), h5) else some ((.inl 1), h5))) else (zlt (zset h 403 69 (w32 ((h 403 69) - 1))) fun h1 => (zqi (m_R_ring d (h1 403 69) h1) fun a3 h2 => (zqv (m_R_copies d 0 a3 h2) fun h4 => some ((.inl 1), h4))))) := (zF_at zMT_283).trans ((zgo_eq (zrn_ext d)).trans rfl)
