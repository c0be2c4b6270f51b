set_option maxRecDepth 100000 in
set_option maxHeartbeats 4000000 in
theorem em_R_crews (d : Nat) (x1 : Int) (h : zH) : m_R_crews (d + 1) x1 h = (zlt (zset h 403 87 (-1)) fun h1 => (if h1 403 86 = 1 then (l_R_crews_37 d x1 10 0 h1) else (if h1 403 86 = 2 then (l_R_crews_37 d x1 100 0 h1) else (l_R_crews_37 d x1 1000 0 h1)))) := (zF_at zMT_317).trans ((zgo_eq (zrn_ext d)).trans rfl)
set_option maxRecDepth 100000 in
set_option maxHeartbeats 4000000 in
theorem el_R_crews_37 (d : Nat) (x1 x2 x3 : Int) (h : zH) : l_R_crews_37 d x1 x2 x3 h = (if x3 < x2 then (l_R_crews_56 d x1 x2 x3 x3 0 (w32 ((h 403 86) - 1)) h) else (if h 403 87 = (-1) then some ((.inl 0), h) else some ((.inl 1), h))) := (zgo_eq (zrn_ext d)).trans rfl
set_option maxRecDepth 100000 in
set_option maxHeartbeats 4000000 in
theorem el_R_crews_56 (d : Nat) (x1 x2 x3 x4 x5 x6 : Int) (h : zH) : l_R_crews_56 d x1 x2 x3 x4 x5 x6 h = (if x6 < 0 then (if h 403 87 = (-1) then (zqv (m_R_firstOrder d h) fun h1 => (l_R_crews_123 d x1 x2 x3 x5 1 h1)) else (if x5 < h 403 87 then (zqv (m_R_firstOrder d h) fun h2 => (l_R_crews_123 d x1 x2 x3 x5 1 h2)) else (l_R_crews_37 d x1 x2 (w32 (x3 + 1)) h))) else (if 0 ≤ x6 ∧ x6 < ((6 : Nat) : Int) then (zlt (zset h 458 x6 (Int.tmod x4 10)) fun h3 => (l_R_crews_56 d x1 x2 x3 (w32 (Int.tdiv x4 10)) (w32 (x5 + (Int.tmod x4 10))) (w32 (x6 + (-1))) h3)) else none)) := (zgo_eq (zrn_ext d)).trans rfl
set_option maxRecDepth 100000 in
set_option maxHeartbeats 4000000 in
theorem el_R_crews_123 (d : Nat) (x1 x2 x3 x5 x6 : Int) (h : zH) : l_R_crews_123 d x1 x2 x3 x5 x6 h = (if x6 = 0 then (l_R_crews_37 d x1 x2 (w32 (x3 + 1)) h) else (zqi (m_R_brings d x1 h) fun a2 h1 => (if a2 = 0 then (l_R_crews_191 d x1 x2 x3 x5 x6 h1) else (zlt (zset h1 403 87 x5) fun h3 => (l_R_crews_145 d x1 x2 x3 x5 0 h3))))) := (zgo_eq (zrn_ext d)).trans rfl
set_option maxRecDepth 100000 in
set_option maxHeartbeats 4000000 in
theorem el_R_crews_145 (d : Nat) (x1 x2 x3 x5 x7 : Int) (h : zH) : l_R_crews_145 d x1 x2 x3 x5 x7 h = (if x7 < h 403 86 then (if 0 ≤ x7 ∧ x7 < ((6 : Nat) : Int) then (if 0 ≤ x7 ∧ x7 < ((6 : Nat) : Int) then (zlt (zset h 460 x7 (h 458 x7)) fun h1 => (if 0 ≤ x7 ∧ x7 < ((6 : Nat) : Int) then (if 0 ≤ x7 ∧ x7 < ((6 : Nat) : Int) then (zlt (zset h1 461 x7 (h1 459 x7)) fun h2 => (l_R_crews_145 d x1 x2 x3 x5 (w32 (x7 + 1)) h2)) else none) else none)) else none) else none) else (l_R_crews_191 d x1 x2 x3 x5 0 h)) := (zgo_eq (zrn_ext d)).trans rfl
set_option maxRecDepth 100000 in
set_option maxHeartbeats 4000000 in
theorem el_R_crews_191 (d : Nat) (x1 x2 x3 x5 x6 : Int) (h : zH) : l_R_crews_191 d x1 x2 x3 x5 x6 h = (if x6 = 0 then (l_R_crews_123 d x1 x2 x3 x5 0 h) else (zqi (m_R_nextOrder d h) fun a2 h1 => (if a2 = 0 then (l_R_crews_123 d x1 x2 x3 x5 0 h1) else (l_R_crews_123 d x1 x2 x3 x5 1 h1)))) := (zgo_eq (zrn_ext d)).trans rfl
set_option maxRecDepth 100000 in
set_option maxHeartbeats 4000000 in
theorem em_R_crew (d : Nat) (x1 x2 x3 : Int) (h : zH) : m_R_crew (d + 1) x1 x2 x3 h = (zqi (m_R_isOwner d x2 h) fun a2 h1 => (if a2 = 0 then some ((.inl (-1)), h1) else (zqi (m_R_gathers d x1 3 h1) fun a4 h3 => (if a4 = 0 then some ((.inl (-1)), h3) else (if x3 = (-1) then (l_R_crew_56 d x2 x3 h3) else (zqi (m_R_is d x3 0 (w32 ((h3 403 86) - 1)) h3) fun a6 h5 => (if a6 = 0 then (zqi (m_R_is d x3 10 (w32 (9 + (h5 403 86))) h5) fun a8 h7 => (if a8 = 0 then some ((.inl (-1)), h7) else (l_R_crew_56 d x2 x3 h7))) else (l_R_crew_56 d x2 x3 h5)))))))) := (zF_at zMT_318).trans ((zgo_eq (zrn_ext d)).trans rfl)
set_option maxRecDepth 100000 in
set_option maxHeartbeats 4000000 in
theorem el_R_crew_56 (d : Nat) (x2 x3 : Int) (h : zH) : l_R_crew_56 d x2 x3 h = (zqi (m_R_crews d x2 h) fun a2 h1 => (if a2 = 0 then some ((.inl (-1)), h1) else (if x3 = (-1) then some ((.inl (h1 403 87)), h1) else (if x3 < 10 then (if 0 ≤ x3 ∧ x3 < ((6 : Nat) : Int) then some ((.inl (h1 460 x3)), h1) else none) else (if 0 ≤ w32 (x3 - 10) ∧ w32 (x3 - 10) < ((6 : Nat) : Int) then (if 0 ≤ h1 461 (w32 (x3 - 10)) ∧ h1 461 (w32 (x3 - 10)) < ((6 : Nat) : Int) then some ((.inl (h1 457 (h1 461 (w32 (x3 - 10))))), h1) else none) else none))))) := (zgo_eq (zrn_ext d)).trans rfl
set_option maxRecDepth 100000 in
set_option maxHeartbeats 4000000 in
theorem em_R_isSafe (d : Nat) (x1 : Int) (h : zH) : m_R_isSafe (d + 1) x1 h = (l_R_isSafe_2 d x1 0 h) := (zF_at zMT_319).trans ((zgo_eq (zrn_ext d)).trans rfl)
set_option maxRecDepth 100000 in
set_option maxHeartbeats 4000000 in
theorem el_R_isSafe_2 (d : Nat) (x1 x2 : Int) (h : zH) : l_R_isSafe_2 d x1 x2 h = (if 0 ≤ h 403 12 ∧ h 403 12 < ((2 : Nat) : Int) then (if x2 < h 424 (h 403 12) then (zqv (m_R_thaws d x2 (w32 (x1 + 1)) x1 h) fun h1 => (if 0 < h1 403 74 then some ((.inl 0), h1) else (l_R_isSafe_2 d x1 (w32 (x2 + 1)) h1))) else some ((.inl 1), h)) else none) := (zgo_eq (zrn_ext d)).trans rfl
set_option maxRecDepth 100000 in
set_option maxHeartbeats 4000000 in
theorem em_R_mayNet (d : Nat) (x1 : Int) (h : zH) : m_R_mayNet (d + 1) x1 h = (zqi (m_R_isFree d 0 x1 h) fun a2 h1 => (if a2 = 0 then some ((.inl 0), h1) else (if 0 ≤ x1 ∧ x1 < ((2100 : Nat) : Int) then (if h1 450 x1 = 0 then some ((.inl 1), h1) else some ((.inl 0), h1)) else none))) := (zF_at zMT_320).trans ((zgo_eq (zrn_ext d)).trans rfl)
set_option maxRecDepth 100000 in
set_option maxHeartbeats 4000000 in
theorem em_R_withNet (d : Nat) (x1 x2 : Int) (h : zH) : m_R_withNet (d + 1) x1 x2 h = (if 0 ≤ x1 ∧ x1 < ((3 : Nat) : Int) then (zlt (zset h 462 x1 x2) fun h1 => (if 0 ≤ w32 (60 + x2) ∧ w32 (60 + x2) < ((2100 : Nat) : Int) then (zlt (zset h1 450 (w32 (60 + x2)) 1) fun h2 => (if x1 = w32 ((h2 403 89) - 1) then (zqi (m_R_isSafe d 1 h2) fun a4 h3 => (l_R_withNet_36 d x2 a4 h3)) else (l_R_withNet_36 d x2 0 h2))) else none)) else none) := (zF_at zMT_321).trans ((zgo_eq (zrn_ext d)).trans rfl)
set_option maxRecDepth 100000 in
set_option maxHeartbeats 4000000 in
theorem el_R_withNet_36 (d : Nat) (x2 s0 : Int) (h : zH) : l_R_withNet_36 d x2 s0 h = (if s0 = 0 then (if 0 ≤ w32 (60 + x2) ∧ w32 (60 + x2) < ((2100 : Nat) : Int) then (zlt (zset h 450 (w32 (60 + x2)) 0) fun h1 => (zbo s0 (some ((.inl s0), h1)))) else none) else (zbo s0 (some ((.inl s0), h)))) := (zgo_eq (zrn_ext d)).trans rfl
set_option maxRecDepth 100000 in
set_option maxHeartbeats 4000000 in
theorem em_R_oneNet (d : Nat) (x1 x2 : Int) (h : zH) : m_R_oneNet (d + 1) x1 x2 h = (l_R_oneNet_2 d x1 x2 h) := (zF_at zMT_322).trans ((zgo_eq (zrn_ext d)).trans rfl)
set_option maxRecDepth 100000 in
set_option maxHeartbeats 4000000 in
theorem el_R_oneNet_2 (d : Nat) (x1 x3 : Int) (h : zH) : l_R_oneNet_2 d x1 x3 h = (zqi (m_R_cells d h) fun a2 h1 => (if x3 < a2 then (zqi (m_R_mayNet d x3 h1) fun a4 h3 => (if a4 = 0 then (l_R_oneNet_2 d x1 (w32 (x3 + 1)) h3) else (zqi (m_R_withNet d x1 x3 h3) fun a6 h5 => (if a6 = 0 then (l_R_oneNet_2 d x1 (w32 (x3 + 1)) h5) else some ((.inl 1), h5))))) else some ((.inl 0), h1))) := (zgo_eq (zrn_ext d)).trans rfl
set_option maxRecDepth 100000 in
set_option maxHeartbeats 4000000 in
theorem em_R_twoNets (d : Nat) (x1 x2 : Int) (h : zH) : m_R_twoNets (d + 1) x1 x2 h = (l_R_twoNets_2 d x1 x2 h) := (zF_at zMT_323).trans ((zgo_eq (zrn_ext d)).trans rfl)
set_option maxRecDepth 100000 in
set_option maxHeartbeats 4000000 in
theorem el_R_twoNets_2 (d : Nat) (x1 x3 : Int) (h : zH) : l_R_twoNets_2 d x1 x3 h = (zqi (m_R_cells d h) fun a2 h1 => (if x3 < a2 then (zqi (m_R_mayNet d x3 h1) fun a4 h3 => (if a4 = 0 then (l_R_twoNets_2 d x1 (w32 (x3 + 1)) h3) else (if 0 ≤ x1 ∧ x1 < ((3 : Nat) : Int) then (zlt (zset h3 462 x1 x3) fun h5 => (if 0 ≤ w32 (60 + x3) ∧ w32 (60 + x3) < ((2100 : Nat) : Int) then (zlt (zset h5 450 (w32 (60 + x3)) 1) fun h6 => (zqi (m_R_oneNet d (w32 (x1 + 1)) (w32 (x3 + 1)) h6) fun a8 h7 => (if a8 = 0 then (if 0 ≤ w32 (60 + x3) ∧ w32 (60 + x3) < ((2100 : Nat) : Int) then (zlt (zset h7 450 (w32 (60 + x3)) 0) fun h9 => (l_R_twoNets_2 d x1 (w32 (x3 + 1)) h9)) else none) else some ((.inl 1), h7)))) else none)) else none))) else some ((.inl 0), h1))) := (zgo_eq (zrn_ext d)).trans rfl
set_option maxRecDepth 100000 in
set_option maxHeartbeats 4000000 in
theorem em_R_threeNets (d : Nat) (h : zH) : m_R_threeNets (d + 1) h = (l_R_threeNets_2 d 0 h) := (zF_at zMT_324).trans ((zgo_eq (zrn_ext d)).trans rfl)
set_option maxRecDepth 100000 in
set_option maxHeartbeats 4000000 in
theorem el_R_threeNets_2 (d : Nat) (x1 : Int) (h : zH) : l_R_threeNets_2 d x1 h = (zqi (m_R_cells d h) fun a2 h1 => (if x1 < a2 then (zqi (m_R_mayNet d x1 h1) fun a4 h3 => (if a4 = 0 then (l_R_threeNets_2 d (w32 (x1 + 1)) h3) else (if 0 ≤ 0 ∧ 0 < ((3 : Nat) : Int) then (zlt (zset h3 462 0 x1) fun h5 => (if 0 ≤ w32 (60 + x1) ∧ w32 (60 + x1) < ((2100 : Nat) : Int) then (zlt (zset h5 450 (w32 (60 + x1)) 1) fun h6 => (zqi (m_R_twoNets d 1 (w32 (x1 + 1)) h6) fun a8 h7 => (if a8 = 0 then (if 0 ≤ w32 (60 + x1) ∧ w32 (60 + x1) < ((2100 : Nat) : Int) then (zlt (zset h7 450 (w32 (60 + x1)) 0) fun h9 => (l_R_threeNets_2 d (w32 (x1 + 1)) h9)) else none) else some ((.inl 1), h7)))) else none)) else none))) else some ((.inl 0), h1))) := (zgo_eq (zrn_ext d)).trans rfl
set_option maxRecDepth 100000 in
set_option maxHeartbeats 4000000 in
theorem em_R_lays (d : Nat) (h : zH) : m_R_lays (d + 1) h = (zqv (m_R_copies d 1 0 h) fun h1 => (zlt (zset h1 403 89 0) fun h2 => (zqi (m_R_isSafe d 1 h2) fun a4 h3 => (if a4 = 0 then (zlt (zset h3 403 89 1) fun h5 => (zqi (m_R_oneNet d 0 0 h5) fun a7 h6 => (if a7 = 0 then (zlt (zset h6 403 89 2) fun h8 => (zqi (m_R_twoNets d 0 0 h8) fun a10 h9 => (if a10 = 0 then (zlt (zset h9 403 89 3) fun h11 => (zqi (m_R_threeNets d h11) fun a13 h12 => (zbo a13 (some ((.inl a13), h12))))) else some ((.inl 1), h9)))) else some ((.inl 1), h6)))) else some ((.inl 1), h3))))) := (zF_at zMT_325).trans ((zgo_eq (zrn_ext d)).trans rfl)
set_option maxRecDepth 100000 in
set_option maxHeartbeats 4000000 in
theorem em_R_nets (d : Nat) (x1 : Int) (h : zH) : m_R_nets (d + 1) x1 h = (zqi (m_R_cells d h) fun a2 h1 => (if a2 = 0 then some ((.inl (-1)), h1) else (zqi (m_R_lays d h1) fun a4 h3 => (if a4 = 0 then some ((.inl (-1)), h3) else (if x1 = (-1) then some ((.inl (h3 403 89)), h3) else (zqi (m_R_is d x1 0 (w32 ((h3 403 89) - 1)) h3) fun a6 h5 => (if a6 = 0 then some ((.inl (-1)), h5) else (if 0 ≤ x1 ∧ x1 < ((3 : Nat) : Int) then some ((.inl (h5 462 x1)), h5) else none)))))))) := (zF_at zMT_326).trans ((zgo_eq (zrn_ext d)).trans rfl)
set_option maxRecDepth 100000 in
set_option maxHeartbeats 4000000 in
theorem em_R_power (d : Nat) (x0 x2 : Int) (h : zH) : m_R_power (d + 1) x0 x2 h = (l_R_power_5 d x0 x2 1 0 h) := (zF_at zMT_327).trans ((zgo_eq (zrn_ext d)).trans rfl)
set_option maxRecDepth 100000 in
set_option maxHeartbeats 4000000 in
theorem el_R_power_5 (d : Nat) (x0 x2 x3 x5 : Int) (h : zH) : l_R_power_5 d x0 x2 x3 x5 h = (if x5 < x2 then (l_R_power_5 d x0 x2 (w64 (x3 * x0)) (w32 (x5 + 1)) h) else some ((.inr (.inl x3)), h)) := (zgo_eq (zrn_ext d)).trans rfl
set_option maxRecDepth 100000 in
set_option maxHeartbeats 4000000 in
theorem em_R_handed (d : Nat) (x1 x2 : Int) (h : zH) : m_R_handed (d + 1) x1 x2 h = (zqi (m_R_isOn d x1 (h 403 90) (h 403 91) h) fun a2 h1 => (if a2 = 0 then some ((.inr (.inl 0)), h1) else (if 0 ≤ w32 ((w32 (10 * (h1 403 12))) + (h1 403 90)) ∧ w32 ((w32 (10 * (h1 403 12))) + (h1 403 90)) < ((20 : Nat) : Int) then (zqi (m_R_oddsAll d h1) fun a4 h3 => (zql (m_R_power d a4 x2 h3) fun a6 h5 => some ((.inr (.inl (w64 ((h1 417 (w32 ((w32 (10 * (h1 403 12))) + (h1 403 90)))) * a6)))), h5))) else none))) := (zF_at zMT_328).trans ((zgo_eq (zrn_ext d)).trans rfl)
set_option maxRecDepth 100000 in
set_option maxHeartbeats 4000000 in
theorem em_R_more (d : Nat) (x0 x2 : Int) (h : zH) : m_R_more (d + 1) x0 x2 h = (if 0 < zlc x0 x2 then some ((.inr (.inl x0)), h) else some ((.inr (.inl x2)), h)) := (zF_at zMT_329).trans ((zgo_eq (zrn_ext d)).trans rfl)
set_option maxRecDepth 100000 in
set_option maxHeartbeats 4000000 in
theorem em_R_waitsOne (d : Nat) (x1 : Int) (h : zH) : m_R_waitsOne (d + 1) x1 h = (l_R_waitsOne_5 d x1 0 0 h) := (zF_at zMT_330).trans ((zgo_eq (zrn_ext d)).trans rfl)
set_option maxRecDepth 100000 in
set_option maxHeartbeats 4000000 in
theorem el_R_waitsOne_5 (d : Nat) (x1 x2 x4 : Int) (h : zH) : l_R_waitsOne_5 d x1 x2 x4 h = (if 0 ≤ h 403 12 ∧ h 403 12 < ((2 : Nat) : Int) then (if x4 < h 424 (h 403 12) then (zqv (m_R_thaws d x4 (w32 (x1 + 1)) x1 h) fun h1 => (if 0 ≤ w32 ((w32 (6 * (h1 403 12))) + x4) ∧ w32 ((w32 (6 * (h1 403 12))) + x4) < ((12 : Nat) : Int) then (zql (m_R_handed d (w32 (x1 + 1)) 0 h1) fun a3 h2 => (l_R_waitsOne_5 d x1 (w64 (x2 + (w64 ((h1 426 (w32 ((w32 (6 * (h1 403 12))) + x4))) * a3)))) (w32 (x4 + 1)) h2)) else none)) else some ((.inr (.inl x2)), h)) else none) := (zgo_eq (zrn_ext d)).trans rfl
set_option maxRecDepth 100000 in
set_option maxHeartbeats 4000000 in
theorem em_R_waitsTwo (d : Nat) (x1 : Int) (h : zH) : m_R_waitsTwo (d + 1) x1 h = (l_R_waitsTwo_5 d x1 0 0 h) := (zF_at zMT_331).trans ((zgo_eq (zrn_ext d)).trans rfl)
set_option maxRecDepth 100000 in
set_option maxHeartbeats 4000000 in
theorem el_R_waitsTwo_5 (d : Nat) (x1 x2 x4 : Int) (h : zH) : l_R_waitsTwo_5 d x1 x2 x4 h = (if 0 ≤ h 403 12 ∧ h 403 12 < ((2 : Nat) : Int) then (if x4 < h 424 (h 403 12) then (zqv (m_R_thaws d x4 (w32 (x1 + 1)) x1 h) fun h1 => (if 0 ≤ w32 ((w32 (6 * (h1 403 12))) + x4) ∧ w32 ((w32 (6 * (h1 403 12))) + x4) < ((12 : Nat) : Int) then (zql (m_R_handed d (w32 (x1 + 1)) 1 h1) fun a3 h2 => (zql (m_R_waitsOne d (w32 (x1 + 1)) h2) fun a5 h4 => (zql (m_R_more d a3 a5 h4) fun a7 h6 => (l_R_waitsTwo_5 d x1 (w64 (x2 + (w64 ((h1 426 (w32 ((w32 (6 * (h1 403 12))) + x4))) * a7)))) (w32 (x4 + 1)) h6)))) else none)) else some ((.inr (.inl x2)), h)) else none) := (zgo_eq (zrn_ext d)).trans rfl
set_option maxRecDepth 100000 in
set_option maxHeartbeats 4000000 in
theorem em_R_waitsThree (d : Nat) (x1 : Int) (h : zH) : m_R_waitsThree (d + 1) x1 h = (l_R_waitsThree_5 d x1 0 0 h) := (zF_at zMT_332).trans ((zgo_eq (zrn_ext d)).trans rfl)
set_option maxRecDepth 100000 in
set_option maxHeartbeats 4000000 in
theorem el_R_waitsThree_5 (d : Nat) (x1 x2 x4 : Int) (h : zH) : l_R_waitsThree_5 d x1 x2 x4 h = (if 0 ≤ h 403 12 ∧ h 403 12 < ((2 : Nat) : Int) then (if x4 < h 424 (h 403 12) then (zqv (m_R_thaws d x4 (w32 (x1 + 1)) x1 h) fun h1 => (if 0 ≤ w32 ((w32 (6 * (h1 403 12))) + x4) ∧ w32 ((w32 (6 * (h1 403 12))) + x4) < ((12 : Nat) : Int) then (zql (m_R_handed d (w32 (x1 + 1)) 2 h1) fun a3 h2 => (zql (m_R_waitsTwo d (w32 (x1 + 1)) h2) fun a5 h4 => (zql (m_R_more d a3 a5 h4) fun a7 h6 => (l_R_waitsThree_5 d x1 (w64 (x2 + (w64 ((h1 426 (w32 ((w32 (6 * (h1 403 12))) + x4))) * a7)))) (w32 (x4 + 1)) h6)))) else none)) else some ((.inr (.inl x2)), h)) else none) := (zgo_eq (zrn_ext d)).trans rfl
set_option maxRecDepth 100000 in
set_option maxHeartbeats 4000000 in
theorem em_R_dowry (d : Nat) (x1 x2 x3 x4 : Int) (h : zH) : m_R_dowry (d + 1) x1 x2 x3 x4 h = (zqi (m_R_isThere d x1 h) fun a2 h1 => (if a2 = 0 then some ((.inl (-1)), h1) else (zqi (m_R_isOwner d x2 h1) fun a4 h3 => (if a4 = 0 then some ((.inl (-1)), h3) else (zqi (m_R_is d x3 0 3 h3) fun a6 h5 => (if a6 = 0 then some ((.inl (-1)), h5) else (zqi (m_R_is d x4 0 1 h5) fun a8 h7 => (if a8 = 0 then some ((.inl (-1)), h7) else (if 0 < x3 then (if 0 ≤ h7 403 12 ∧ h7 403 12 < ((2 : Nat) : Int) then (if h7 424 (h7 403 12) = 0 then some ((.inl (-1)), h7) else (l_R_dowry_53 d x1 x2 x3 x4 h7)) else none) else (l_R_dowry_53 d x1 x2 x3 x4 h7)))))))))) := (zF_at zMT_333).trans ((zgo_eq (zrn_ext d)).trans rfl)
set_option maxRecDepth 100000 in
set_option maxHeartbeats 4000000 in
theorem el_R_dowry_53 (d : Nat) (x1 x2 x3 x4 : Int) (h : zH) : l_R_dowry_53 d x1 x2 x3 x4 h = (zlt (zset h 403 90 x1) fun h1 => (zlt (zset h1 403 91 x2) fun h2 => (zql (m_R_handed d 0 x3 h2) fun a4 h3 => (if x3 = 0 then (l_R_dowry_110 d x1 x2 x3 x4 a4 0 h3) else (if x3 = 1 then (zql (m_R_waitsOne d 0 h3) fun a10 h9 => (l_R_dowry_110 d x1 x2 x3 x4 a4 a10 h9)) else (if x3 = 2 then (zql (m_R_waitsTwo d 0 h3) fun a8 h7 => (l_R_dowry_110 d x1 x2 x3 x4 a4 a8 h7)) else (zql (m_R_waitsThree d 0 h3) fun a6 h5 => (l_R_dowry_110 d x1 x2 x3 x4 a4 a6 h5)))))))) := (zgo_eq (zrn_ext d)).trans rfl
set_option maxRecDepth 100000 in
set_option maxHeartbeats 4000000 in
theorem el_R_dowry_110 (d : Nat) (x1 x2 x3 x4 x5 s0 : Int) (h : zH) : l_R_dowry_110 d x1 x2 x3 x4 x5 s0 h = (if x4 = 1 then (if x3 = 0 then some ((.inl 1), h) else (zqi (m_R_isOn d 0 x1 x2 h) fun a8 h7 => (if a8 = 0 then some ((.inl 0), h7) else (if zlc x5 s0 < 0 then some ((.inl 0), h7) else some ((.inl 1), h7))))) else (zql (m_R_more d x5 s0 h) fun a2 h1 => (zqi (m_R_oddsAll d h1) fun a4 h3 => (zql (m_R_power d a4 x3 h3) fun a6 h5 => (zdz a6 (some ((.inl (w32 (w64 (Int.tdiv (w64 (1000 * a2)) a6)))), h5))))))) := (zgo_eq (zrn_ext d)).trans rfl
