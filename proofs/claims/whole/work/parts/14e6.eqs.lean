set_option maxRecDepth 100000 in
set_option maxHeartbeats 4000000 in
theorem em_R_lies (d : Nat) (x1 x2 : Int) (h : zH) : m_R_lies (d + 1) x1 x2 h = (zqi (m_R_isStone d x1 h) fun a2 h1 => (if a2 = 0 then some ((.inl (-1)), h1) else (if 0 ≤ h1 403 12 ∧ h1 403 12 < ((2 : Nat) : Int) then (if h1 424 (h1 403 12) = 0 then some ((.inl (-1)), h1) else (if x2 = (-1) then (l_R_lies_35 d x1 x2 h1) else (zqi (m_R_isCell d x2 h1) fun a4 h3 => (if a4 = 0 then some ((.inl (-1)), h3) else (l_R_lies_35 d x1 x2 h3))))) else none))) := (zF_at zMT_308).trans ((zgo_eq (zrn_ext d)).trans rfl)
set_option maxRecDepth 100000 in
set_option maxHeartbeats 4000000 in
theorem el_R_lies_35 (d : Nat) (x1 x2 : Int) (h : zH) : l_R_lies_35 d x1 x2 h = (if x2 = (-1) then (l_R_lies_50 d x1 x2 h) else (if 0 ≤ x1 ∧ x1 < ((350 : Nat) : Int) then (if h 444 x1 = (-1) then (l_R_lies_50 d x1 x2 h) else (l_R_lies_78 d x1 x2 0 0 h)) else none)) := (zgo_eq (zrn_ext d)).trans rfl
set_option maxRecDepth 100000 in
set_option maxHeartbeats 4000000 in
theorem el_R_lies_50 (d : Nat) (x1 x2 : Int) (h : zH) : l_R_lies_50 d x1 x2 h = (if x2 = (-1) then (if 0 ≤ x1 ∧ x1 < ((350 : Nat) : Int) then (if h 444 x1 = (-1) then some ((.inl 1000), h) else some ((.inl 0), h)) else none) else some ((.inl 0), h)) := (zgo_eq (zrn_ext d)).trans rfl
set_option maxRecDepth 100000 in
set_option maxHeartbeats 4000000 in
theorem el_R_lies_78 (d : Nat) (x1 x2 x3 x4 : Int) (h : zH) : l_R_lies_78 d x1 x2 x3 x4 h = (if 0 ≤ h 403 12 ∧ h 403 12 < ((2 : Nat) : Int) then (if x4 < h 424 (h 403 12) then (zqv (m_R_thaws d x4 1 0 h) fun h3 => (if 0 ≤ w32 (10 + x1) ∧ w32 (10 + x1) < ((350 : Nat) : Int) then (if h3 444 (w32 (10 + x1)) = x2 then (if 0 ≤ w32 ((w32 (6 * (h3 403 12))) + x4) ∧ w32 ((w32 (6 * (h3 403 12))) + x4) < ((12 : Nat) : Int) then (l_R_lies_78 d x1 x2 (w32 (x3 + (h3 426 (w32 ((w32 (6 * (h3 403 12))) + x4))))) (w32 (x4 + 1)) h3) else none) else (l_R_lies_78 d x1 x2 (w32 (x3 + 0)) (w32 (x4 + 1)) h3)) else none)) else (zqi (m_R_oddsAll d h) fun a2 h1 => (zdz a2 (some ((.inl (w32 (Int.tdiv (w32 (1000 * x3)) a2))), h1))))) else none) := (zgo_eq (zrn_ext d)).trans rfl
set_option maxRecDepth 100000 in
set_option maxHeartbeats 4000000 in
theorem em_R_hit (d : Nat) (x1 : Int) (h : zH) : m_R_hit (d + 1) x1 h = (zqi (m_R_isHouse d x1 h) fun a2 h1 => (if a2 = 0 then some ((.inl (-1)), h1) else (if 0 ≤ h1 403 12 ∧ h1 403 12 < ((2 : Nat) : Int) then (if h1 424 (h1 403 12) = 0 then some ((.inl (-1)), h1) else (l_R_hit_26 d x1 0 0 h1)) else none))) := (zF_at zMT_309).trans ((zgo_eq (zrn_ext d)).trans rfl)
set_option maxRecDepth 100000 in
set_option maxHeartbeats 4000000 in
theorem el_R_hit_26 (d : Nat) (x1 x2 x3 : Int) (h : zH) : l_R_hit_26 d x1 x2 x3 h = (if 0 ≤ h 403 12 ∧ h 403 12 < ((2 : Nat) : Int) then (if x3 < h 424 (h 403 12) then (zqv (m_R_thaws d x3 1 0 h) fun h3 => (if 0 ≤ x1 ∧ x1 < ((280 : Nat) : Int) then (if h3 447 x1 = 0 then (if 0 ≤ w32 (8 + x1) ∧ w32 (8 + x1) < ((280 : Nat) : Int) then (if h3 447 (w32 (8 + x1)) = 1 then (if 0 ≤ w32 ((w32 (6 * (h3 403 12))) + x3) ∧ w32 ((w32 (6 * (h3 403 12))) + x3) < ((12 : Nat) : Int) then (l_R_hit_26 d x1 (w32 (x2 + (h3 426 (w32 ((w32 (6 * (h3 403 12))) + x3))))) (w32 (x3 + 1)) h3) else none) else (l_R_hit_26 d x1 (w32 (x2 + 0)) (w32 (x3 + 1)) h3)) else none) else (l_R_hit_26 d x1 (w32 (x2 + 0)) (w32 (x3 + 1)) h3)) else none)) else (zqi (m_R_oddsAll d h) fun a2 h1 => (zdz a2 (some ((.inl (w32 (Int.tdiv (w32 (1000 * x2)) a2))), h1))))) else none) := (zgo_eq (zrn_ext d)).trans rfl
set_option maxRecDepth 100000 in
set_option maxHeartbeats 4000000 in
theorem em_R_worst (d : Nat) (x1 : Int) (h : zH) : m_R_worst (d + 1) x1 h = (if 0 ≤ h 403 12 ∧ h 403 12 < ((2 : Nat) : Int) then (if h 424 (h 403 12) = 0 then some ((.inl (-1)), h) else (zqi (m_R_is d x1 0 1 h) fun a2 h1 => (if a2 = 0 then some ((.inl (-1)), h1) else (l_R_worst_30 d x1 0 (-1) 0 h1)))) else none) := (zF_at zMT_310).trans ((zgo_eq (zrn_ext d)).trans rfl)
set_option maxRecDepth 100000 in
set_option maxHeartbeats 4000000 in
theorem el_R_worst_30 (d : Nat) (x1 x2 x3 x4 : Int) (h : zH) : l_R_worst_30 d x1 x2 x3 x4 h = (if 0 ≤ h 403 12 ∧ h 403 12 < ((2 : Nat) : Int) then (if x4 < h 424 (h 403 12) then (zqv (m_R_thaws d x4 1 0 h) fun h1 => (if x3 < h1 403 76 then (l_R_worst_30 d x1 x4 (h1 403 76) (w32 (x4 + 1)) h1) else (l_R_worst_30 d x1 x2 x3 (w32 (x4 + 1)) h1))) else (if x1 = 0 then some ((.inl x2), h) else some ((.inl x3), h))) else none) := (zgo_eq (zrn_ext d)).trans rfl
set_option maxRecDepth 100000 in
set_option maxHeartbeats 4000000 in
theorem em_R_isOn (d : Nat) (x1 x2 x3 : Int) (h : zH) : m_R_isOn (d + 1) x1 x2 x3 h = (if 0 ≤ w32 ((w32 (10 * x1)) + x2) ∧ w32 ((w32 (10 * x1)) + x2) < ((350 : Nat) : Int) then (if h 444 (w32 ((w32 (10 * x1)) + x2)) = (-1) then some ((.inl 0), h) else (zqi (m_R_ownerOf d (h 444 (w32 ((w32 (10 * x1)) + x2))) h) fun a2 h1 => (if a2 = x3 then some ((.inl 1), h1) else some ((.inl 0), h1)))) else none) := (zF_at zMT_311).trans ((zgo_eq (zrn_ext d)).trans rfl)
set_option maxRecDepth 100000 in
set_option maxHeartbeats 4000000 in
theorem em_R_men (d : Nat) (x1 x2 : Int) (h : zH) : m_R_men (d + 1) x1 x2 h = (zqi (m_R_isThere d x1 h) fun a2 h1 => (if a2 = 0 then some ((.inl (-1)), h1) else (zqi (m_R_isOwner d x2 h1) fun a4 h3 => (if a4 = 0 then some ((.inl (-1)), h3) else (l_R_men_20 d x1 x2 1 h3))))) := (zF_at zMT_312).trans ((zgo_eq (zrn_ext d)).trans rfl)
set_option maxRecDepth 100000 in
set_option maxHeartbeats 4000000 in
theorem el_R_men_20 (d : Nat) (x1 x2 x3 : Int) (h : zH) : l_R_men_20 d x1 x2 x3 h = (if 99 < x3 then some ((.inl (-1)), h) else (zqv (m_R_copies d 1 0 h) fun h1 => (zqv (m_R_forgets d h1) fun h2 => (zqi (m_R_drives d 1 x1 (w32 (10 * x3)) h2) fun a4 h3 => (zqi (m_R_isOn d 1 x1 x2 h3) fun a6 h5 => (if a6 = 0 then (l_R_men_20 d x1 x2 (w32 (x3 + 1)) h5) else some ((.inl x3), h5))))))) := (zgo_eq (zrn_ext d)).trans rfl
set_option maxRecDepth 100000 in
set_option maxHeartbeats 4000000 in
theorem em_R_gathers (d : Nat) (x1 x2 : Int) (h : zH) : m_R_gathers (d + 1) x1 x2 h = (if 0 < x1 then (if 0 ≤ h 403 12 ∧ h 403 12 < ((2 : Nat) : Int) then (if x1 < zshl 1 (h 415 (h 403 12)) then (zlt (zset h 403 86 0) fun h1 => (l_R_gathers_28 d x1 x2 0 h1)) else some ((.inl 0), h)) else none) else some ((.inl 0), h)) := (zF_at zMT_313).trans ((zgo_eq (zrn_ext d)).trans rfl)
set_option maxRecDepth 100000 in
set_option maxHeartbeats 4000000 in
theorem el_R_gathers_28 (d : Nat) (x1 x2 x3 : Int) (h : zH) : l_R_gathers_28 d x1 x2 x3 h = (if 0 ≤ h 403 12 ∧ h 403 12 < ((2 : Nat) : Int) then (if x3 < h 415 (h 403 12) then (if zand (zshr x1 x3) 1 = 0 then (l_R_gathers_28 d x1 x2 (w32 (x3 + 1)) h) else (if h 403 86 = x2 then some ((.inl 0), h) else (if 0 ≤ x3 ∧ x3 < ((350 : Nat) : Int) then (if h 444 x3 = (-1) then some ((.inl 0), h) else (if 0 ≤ h 403 86 ∧ h 403 86 < ((6 : Nat) : Int) then (zlt (zset h 457 (h 403 86) x3) fun h1 => (zlt (zset h1 403 86 (w32 ((h1 403 86) + 1))) fun h2 => (l_R_gathers_28 d x1 x2 (w32 (x3 + 1)) h2))) else none)) else none))) else some ((.inl 1), h)) else none) := (zgo_eq (zrn_ext d)).trans rfl
set_option maxRecDepth 100000 in
set_option maxHeartbeats 4000000 in
theorem em_R_firstOrder (d : Nat) (h : zH) : m_R_firstOrder (d + 1) h = (l_R_firstOrder_2 d 0 h) := (zF_at zMT_314).trans ((zgo_eq (zrn_ext d)).trans rfl)
set_option maxRecDepth 100000 in
set_option maxHeartbeats 4000000 in
theorem el_R_firstOrder_2 (d : Nat) (x1 : Int) (h : zH) : l_R_firstOrder_2 d x1 h = (if x1 < h 403 86 then (if 0 ≤ x1 ∧ x1 < ((6 : Nat) : Int) then (zlt (zset h 459 x1 x1) fun h1 => (l_R_firstOrder_2 d (w32 (x1 + 1)) h1)) else none) else some (.inl 0, h)) := (zgo_eq (zrn_ext d)).trans rfl
set_option maxRecDepth 100000 in
set_option maxHeartbeats 4000000 in
theorem em_R_nextOrder (d : Nat) (h : zH) : m_R_nextOrder (d + 1) h = (l_R_nextOrder_7 d (w32 ((h 403 86) - 2)) h) := (zF_at zMT_315).trans ((zgo_eq (zrn_ext d)).trans rfl)
set_option maxRecDepth 100000 in
set_option maxHeartbeats 4000000 in
theorem el_R_nextOrder_7 (d : Nat) (x1 : Int) (h : zH) : l_R_nextOrder_7 d x1 h = (if x1 < 0 then (l_R_nextOrder_34 d x1 h) else (if 0 ≤ x1 ∧ x1 < ((6 : Nat) : Int) then (if 0 ≤ w32 (x1 + 1) ∧ w32 (x1 + 1) < ((6 : Nat) : Int) then (if h 459 (w32 (x1 + 1)) < h 459 x1 then (l_R_nextOrder_7 d (w32 (x1 + (-1))) h) else (l_R_nextOrder_34 d x1 h)) else none) else none)) := (zgo_eq (zrn_ext d)).trans rfl
set_option maxRecDepth 100000 in
set_option maxHeartbeats 4000000 in
theorem el_R_nextOrder_34 (d : Nat) (x1 : Int) (h : zH) : l_R_nextOrder_34 d x1 h = (if x1 < 0 then some ((.inl 0), h) else (l_R_nextOrder_47 d x1 (w32 ((h 403 86) - 1)) h)) := (zgo_eq (zrn_ext d)).trans rfl
set_option maxRecDepth 100000 in
set_option maxHeartbeats 4000000 in
theorem el_R_nextOrder_47 (d : Nat) (x1 x2 : Int) (h : zH) : l_R_nextOrder_47 d x1 x2 h = (if 0 ≤ x2 ∧ x2 < ((6 : Nat) : Int) then (if 0 ≤ x1 ∧ x1 < ((6 : Nat) : Int) then (if h 459 x2 < h 459 x1 then (l_R_nextOrder_47 d x1 (w32 (x2 + (-1))) h) else (if 0 ≤ x1 ∧ x1 < ((6 : Nat) : Int) then (if 0 ≤ x2 ∧ x2 < ((6 : Nat) : Int) then (if 0 ≤ x1 ∧ x1 < ((6 : Nat) : Int) then (zlt (zset h 459 x1 (h 459 x2)) fun h1 => (if 0 ≤ x2 ∧ x2 < ((6 : Nat) : Int) then (zlt (zset h1 459 x2 (h 459 x1)) fun h2 => (l_R_nextOrder_107 d (w32 (x1 + 1)) (w32 ((h2 403 86) - 1)) h2)) else none)) else none) else none) else none)) else none) else none) := (zgo_eq (zrn_ext d)).trans rfl
set_option maxRecDepth 100000 in
set_option maxHeartbeats 4000000 in
theorem el_R_nextOrder_107 (d : Nat) (x4 x5 : Int) (h : zH) : l_R_nextOrder_107 d x4 x5 h = (if x4 < x5 then (if 0 ≤ x4 ∧ x4 < ((6 : Nat) : Int) then (if 0 ≤ x5 ∧ x5 < ((6 : Nat) : Int) then (if 0 ≤ x4 ∧ x4 < ((6 : Nat) : Int) then (zlt (zset h 459 x4 (h 459 x5)) fun h1 => (if 0 ≤ x5 ∧ x5 < ((6 : Nat) : Int) then (zlt (zset h1 459 x5 (h 459 x4)) fun h2 => (l_R_nextOrder_107 d (w32 (x4 + 1)) (w32 (x5 + (-1))) h2)) else none)) else none) else none) else none) else some ((.inl 1), h)) := (zgo_eq (zrn_ext d)).trans rfl
set_option maxRecDepth 100000 in
set_option maxHeartbeats 4000000 in
theorem em_R_brings (d : Nat) (x1 : Int) (h : zH) : m_R_brings (d + 1) x1 h = (zqv (m_R_copies d 1 0 h) fun h1 => (zqv (m_R_forgets d h1) fun h2 => (l_R_brings_12 d x1 0 h2))) := (zF_at zMT_316).trans ((zgo_eq (zrn_ext d)).trans rfl)
set_option maxRecDepth 100000 in
set_option maxHeartbeats 4000000 in
theorem el_R_brings_12 (d : Nat) (x1 x2 : Int) (h : zH) : l_R_brings_12 d x1 x2 h = (if x2 < h 403 86 then (if 0 ≤ x2 ∧ x2 < ((6 : Nat) : Int) then (if 0 ≤ h 459 x2 ∧ h 459 x2 < ((6 : Nat) : Int) then (if 0 < h 458 (h 459 x2) then (if 0 ≤ h 459 x2 ∧ h 459 x2 < ((6 : Nat) : Int) then (if 0 ≤ h 459 x2 ∧ h 459 x2 < ((6 : Nat) : Int) then (zqi (m_R_drives d 1 (h 457 (h 459 x2)) (w32 (10 * (h 458 (h 459 x2)))) h) fun a2 h1 => (l_R_brings_12 d x1 (w32 (x2 + 1)) h1)) else none) else none) else (l_R_brings_12 d x1 (w32 (x2 + 1)) h)) else none) else none) else (l_R_brings_65 d x1 0 h)) := (zgo_eq (zrn_ext d)).trans rfl
set_option maxRecDepth 100000 in
set_option maxHeartbeats 4000000 in
theorem el_R_brings_65 (d : Nat) (x1 x2 : Int) (h : zH) : l_R_brings_65 d x1 x2 h = (if x2 < h 403 86 then (if 0 ≤ x2 ∧ x2 < ((6 : Nat) : Int) then (zqi (m_R_isOn d 1 (h 457 x2) x1 h) fun a2 h1 => (if a2 = 0 then some ((.inl 0), h1) else (l_R_brings_65 d x1 (w32 (x2 + 1)) h1))) else none) else some ((.inl 1), h)) := (zgo_eq (zrn_ext d)).trans rfl
