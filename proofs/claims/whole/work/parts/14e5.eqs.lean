set_option maxRecDepth 100000 in
set_option maxHeartbeats 4000000 in
theorem em_R_goOn (d : Nat) (x1 : Int) (h : zH) : m_R_goOn (d + 1) x1 h = (zqi (m_R_is d x1 1 20 h) fun a2 h1 => (if a2 = 0 then (zqi (m_R_refuses d 2 h1) fun a4 h3 => some ((.inl a4), h3)) else (if 0 ≤ h1 403 12 ∧ h1 403 12 < ((2 : Nat) : Int) then (if h1 424 (h1 403 12) = 0 then (zqi (m_R_refuses d 2 h1) fun a6 h5 => some ((.inl a6), h5)) else (l_R_goOn_32 d x1 0 0 h1)) else none))) := (zF_at zMT_296).trans ((zgo_eq (zrn_ext d)).trans rfl)
set_option maxRecDepth 100000 in
set_option maxHeartbeats 4000000 in
theorem el_R_goOn_32 (d : Nat) (x1 x2 x3 : Int) (h : zH) : l_R_goOn_32 d x1 x2 x3 h = (if x3 < x1 then (zqi (m_R_oddsAll d h) fun a2 h1 => (zqi (m_R_draw d a2 h1) fun a4 h3 => (l_R_goOn_50 d x1 x2 x3 a4 0 h3))) else some ((.inl x2), h)) := (zgo_eq (zrn_ext d)).trans rfl
set_option maxRecDepth 100000 in
set_option maxHeartbeats 4000000 in
theorem el_R_goOn_50 (d : Nat) (x1 x2 x3 x4 x5 : Int) (h : zH) : l_R_goOn_50 d x1 x2 x3 x4 x5 h = (if 0 ≤ w32 ((w32 (6 * (h 403 12))) + x5) ∧ w32 ((w32 (6 * (h 403 12))) + x5) < ((12 : Nat) : Int) then (if x4 < h 426 (w32 ((w32 (6 * (h 403 12))) + x5)) then (zqv (m_R_keeps d h) fun h1 => (zqv (m_R_forgets d h1) fun h2 => (if 0 ≤ w32 ((w32 (6 * (h2 403 12))) + x5) ∧ w32 ((w32 (6 * (h2 403 12))) + x5) < ((12 : Nat) : Int) then (zqv (m_R_springs d 0 (h2 425 (w32 ((w32 (6 * (h2 403 12))) + x5))) h2) fun h3 => (l_R_goOn_32 d x1 (w32 (x2 + (h3 403 73))) (w32 (x3 + 1)) h3)) else none))) else (if 0 ≤ w32 ((w32 (6 * (h 403 12))) + x5) ∧ w32 ((w32 (6 * (h 403 12))) + x5) < ((12 : Nat) : Int) then (l_R_goOn_50 d x1 x2 x3 (w32 (x4 - (h 426 (w32 ((w32 (6 * (h 403 12))) + x5))))) (w32 (x5 + 1)) h) else none)) else none) := (zgo_eq (zrn_ext d)).trans rfl
set_option maxRecDepth 100000 in
set_option maxHeartbeats 4000000 in
theorem em_R_seed (d : Nat) (x1 : Int) (h : zH) : m_R_seed (d + 1) x1 h = (if x1 < 0 then (zqi (m_R_refuses d 5 h) fun a3 h2 => (if a3 < 0 then some ((.inl 0), h2) else some ((.inl 1), h2))) else (zlt (zset h 403 70 x1) fun h1 => some ((.inl 1), h1))) := (zF_at zMT_297).trans ((zgo_eq (zrn_ext d)).trans rfl)
set_option maxRecDepth 100000 in
set_option maxHeartbeats 4000000 in
theorem em_R_net (d : Nat) (x1 x2 : Int) (h : zH) : m_R_net (d + 1) x1 x2 h = (zqi (m_R_isCell d x1 h) fun a2 h1 => (if a2 = 0 then (l_R_net_27 d h1) else (if 0 ≤ x1 ∧ x1 < ((2100 : Nat) : Int) then (if h1 450 x1 = 1 then (l_R_net_23 d x1 x2 1 h1) else (l_R_net_23 d x1 x2 0 h1)) else none))) := (zF_at zMT_298).trans ((zgo_eq (zrn_ext d)).trans rfl)
set_option maxRecDepth 100000 in
set_option maxHeartbeats 4000000 in
theorem el_R_net_23 (d : Nat) (x1 x2 s0 : Int) (h : zH) : l_R_net_23 d x1 x2 s0 h = (if s0 = x2 then (l_R_net_27 d h) else (zqv (m_R_keeps d h) fun h1 => (if x2 = 0 then (if 0 ≤ x1 ∧ x1 < ((2100 : Nat) : Int) then (zlt (zset h1 450 x1 0) fun h2 => some ((.inl 1), h2)) else none) else (if 0 ≤ x1 ∧ x1 < ((2100 : Nat) : Int) then (zlt (zset h1 450 x1 1) fun h3 => some ((.inl 1), h3)) else none)))) := (zgo_eq (zrn_ext d)).trans rfl
set_option maxRecDepth 100000 in
set_option maxHeartbeats 4000000 in
theorem el_R_net_27 (d : Nat) (h : zH) : l_R_net_27 d h = (zqi (m_R_refuses d 3 h) fun a2 h1 => (if a2 < 0 then some ((.inl 0), h1) else some ((.inl 1), h1))) := (zgo_eq (zrn_ext d)).trans rfl
set_option maxRecDepth 100000 in
set_option maxHeartbeats 4000000 in
theorem em_R_isFree (d : Nat) (x1 x2 : Int) (h : zH) : m_R_isFree (d + 1) x1 x2 h = (zqi (m_R_stoneAt d x1 x2 h) fun a2 h1 => (if a2 = (-1) then (zqi (m_R_wholeAt d x1 x2 h1) fun a4 h3 => (if a4 = (-1) then (if 0 ≤ w32 ((w32 (60 * x1)) + x2) ∧ w32 ((w32 (60 * x1)) + x2) < ((2100 : Nat) : Int) then (if h3 448 (w32 ((w32 (60 * x1)) + x2)) = 0 then some ((.inl 1), h3) else some ((.inl 0), h3)) else none) else some ((.inl 0), h3))) else some ((.inl 0), h1))) := (zF_at zMT_299).trans ((zgo_eq (zrn_ext d)).trans rfl)
set_option maxRecDepth 100000 in
set_option maxHeartbeats 4000000 in
theorem em_R_wall (d : Nat) (x1 x2 : Int) (h : zH) : m_R_wall (d + 1) x1 x2 h = (zqi (m_R_isCell d x1 h) fun a2 h1 => (if a2 = 0 then (l_R_wall_28 d h1) else (zqi (m_R_is d x2 1 9999 h1) fun a4 h3 => (if a4 = 0 then (l_R_wall_28 d h3) else (zqi (m_R_isFree d 0 x1 h3) fun a6 h5 => (if a6 = 0 then (l_R_wall_28 d h5) else (zqv (m_R_keeps d h5) fun h7 => (if 0 ≤ x1 ∧ x1 < ((2100 : Nat) : Int) then (zlt (zset h7 448 x1 x2) fun h8 => some ((.inl 1), h8)) else none)))))))) := (zF_at zMT_300).trans ((zgo_eq (zrn_ext d)).trans rfl)
set_option maxRecDepth 100000 in
set_option maxHeartbeats 4000000 in
theorem el_R_wall_28 (d : Nat) (h : zH) : l_R_wall_28 d h = (zqi (m_R_refuses d 3 h) fun a2 h1 => (if a2 < 0 then some ((.inl 0), h1) else some ((.inl 1), h1))) := (zgo_eq (zrn_ext d)).trans rfl
set_option maxRecDepth 100000 in
set_option maxHeartbeats 4000000 in
theorem em_R_dig (d : Nat) (x1 x2 : Int) (h : zH) : m_R_dig (d + 1) x1 x2 h = (zqi (m_R_isCell d x1 h) fun a2 h1 => (if a2 = 0 then (zqi (m_R_refuses d 3 h1) fun a4 h3 => some ((.inl a4), h3)) else (zqi (m_R_is d x2 1 99 h1) fun a6 h5 => (if a6 = 0 then (zqi (m_R_refuses d 3 h5) fun a11 h10 => some ((.inl a11), h10)) else (zqv (m_R_keeps d h5) fun h7 => (if 0 ≤ x1 ∧ x1 < ((2100 : Nat) : Int) then (if 99 < w32 ((h7 449 x1) + x2) then (if 0 ≤ x1 ∧ x1 < ((2100 : Nat) : Int) then (zlt (zset h7 449 x1 99) fun h9 => (if 0 ≤ x1 ∧ x1 < ((2100 : Nat) : Int) then some ((.inl (h9 449 x1)), h9) else none)) else none) else (if 0 ≤ x1 ∧ x1 < ((2100 : Nat) : Int) then (if 0 ≤ x1 ∧ x1 < ((2100 : Nat) : Int) then (zlt (zset h7 449 x1 (w32 ((h7 449 x1) + x2))) fun h8 => (if 0 ≤ x1 ∧ x1 < ((2100 : Nat) : Int) then some ((.inl (h8 449 x1)), h8) else none)) else none) else none)) else none)))))) := (zF_at zMT_301).trans ((zgo_eq (zrn_ext d)).trans rfl)
set_option maxRecDepth 100000 in
set_option maxHeartbeats 4000000 in
theorem em_R_take (d : Nat) (x1 : Int) (h : zH) : m_R_take (d + 1) x1 h = (zqi (m_R_isThere d x1 h) fun a2 h1 => (if a2 = 0 then (zqi (m_R_refuses d 3 h1) fun a6 h5 => some ((.inl a6), h5)) else (zqv (m_R_keeps d h1) fun h3 => (if 0 ≤ x1 ∧ x1 < ((350 : Nat) : Int) then (zlt (zset h3 444 x1 (-1)) fun h4 => (if 0 ≤ w32 ((w32 (10 * (h4 403 12))) + x1) ∧ w32 ((w32 (10 * (h4 403 12))) + x1) < ((20 : Nat) : Int) then some ((.inl (h4 417 (w32 ((w32 (10 * (h4 403 12))) + x1)))), h4) else none)) else none)))) := (zF_at zMT_302).trans ((zgo_eq (zrn_ext d)).trans rfl)
set_option maxRecDepth 100000 in
set_option maxHeartbeats 4000000 in
theorem em_R_would (d : Nat) (x1 x2 : Int) (h : zH) : m_R_would (d + 1) x1 x2 h = (zqi (m_R_isThere d x1 h) fun a2 h1 => (if a2 = 0 then some ((.inl 0), h1) else (zqi (m_R_is d x2 0 99999 h1) fun a4 h3 => (if a4 = 0 then some ((.inl 0), h3) else (zqv (m_R_copies d 1 0 h3) fun h5 => (zqv (m_R_forgets d h5) fun h6 => some ((.inl 1), h6))))))) := (zF_at zMT_303).trans ((zgo_eq (zrn_ext d)).trans rfl)
set_option maxRecDepth 100000 in
set_option maxHeartbeats 4000000 in
theorem em_R_path (d : Nat) (x1 x2 x3 : Int) (h : zH) : m_R_path (d + 1) x1 x2 x3 h = (zqi (m_R_would d x1 x2 h) fun a2 h1 => (if a2 = 0 then some ((.inl (-1)), h1) else (zqi (m_R_drives d 1 x1 x2 h1) fun a4 h3 => (if x3 = (-1) then some ((.inl a4), h3) else (zqi (m_R_is d x3 0 (w32 (a4 - 1)) h3) fun a6 h5 => (if a6 = 0 then some ((.inl (-1)), h5) else (if 0 ≤ x3 ∧ x3 < ((64 : Nat) : Int) then some ((.inl (h5 456 x3)), h5) else none))))))) := (zF_at zMT_304).trans ((zgo_eq (zrn_ext d)).trans rfl)
set_option maxRecDepth 100000 in
set_option maxHeartbeats 4000000 in
theorem em_R_roll (d : Nat) (x1 x2 x3 : Int) (h : zH) : m_R_roll (d + 1) x1 x2 x3 h = (zqi (m_R_would d x1 x2 h) fun a2 h1 => (if a2 = 0 then some ((.inl (-1)), h1) else (zqi (m_R_drives d 1 x1 x2 h1) fun a4 h3 => (if x3 = 0 then (if 0 ≤ w32 (10 + x1) ∧ w32 (10 + x1) < ((350 : Nat) : Int) then some ((.inl (h3 444 (w32 (10 + x1)))), h3) else none) else (if x3 = 1 then some ((.inl (h3 403 74)), h3) else (if x3 = 2 then some ((.inl (h3 403 75)), h3) else (if x3 = 3 then some ((.inl (h3 403 73)), h3) else (if x3 = 4 then some ((.inl (h3 403 76)), h3) else (if x3 = 5 then some ((.inl (h3 403 77)), h3) else some ((.inl (-1)), h3)))))))))) := (zF_at zMT_305).trans ((zgo_eq (zrn_ext d)).trans rfl)
set_option maxRecDepth 100000 in
set_option maxHeartbeats 4000000 in
theorem em_R_thaws (d : Nat) (x1 x2 x3 : Int) (h : zH) : m_R_thaws (d + 1) x1 x2 x3 h = (zqv (m_R_copies d x2 x3 h) fun h1 => (zqv (m_R_forgets d h1) fun h2 => (if 0 ≤ w32 ((w32 (6 * (h2 403 12))) + x1) ∧ w32 ((w32 (6 * (h2 403 12))) + x1) < ((12 : Nat) : Int) then (zqv (m_R_springs d x2 (h2 425 (w32 ((w32 (6 * (h2 403 12))) + x1))) h2) fun h3 => some (.inl 0, h3)) else none))) := (zF_at zMT_306).trans ((zgo_eq (zrn_ext d)).trans rfl)
set_option maxRecDepth 100000 in
set_option maxHeartbeats 4000000 in
theorem em_R_thaw (d : Nat) (x1 x2 : Int) (h : zH) : m_R_thaw (d + 1) x1 x2 h = (if 0 ≤ h 403 12 ∧ h 403 12 < ((2 : Nat) : Int) then (zqi (m_R_is d x1 0 (w32 ((h 424 (h 403 12)) - 1)) h) fun a2 h1 => (if a2 = 0 then some ((.inl (-1)), h1) else (zqi (m_R_is d x2 0 4 h1) fun a4 h3 => (if a4 = 0 then some ((.inl (-1)), h3) else (if x2 < 2 then (if x2 = 0 then (if 0 ≤ w32 ((w32 (6 * (h3 403 12))) + x1) ∧ w32 ((w32 (6 * (h3 403 12))) + x1) < ((12 : Nat) : Int) then some ((.inl (h3 425 (w32 ((w32 (6 * (h3 403 12))) + x1)))), h3) else none) else (if 0 ≤ w32 ((w32 (6 * (h3 403 12))) + x1) ∧ w32 ((w32 (6 * (h3 403 12))) + x1) < ((12 : Nat) : Int) then some ((.inl (h3 426 (w32 ((w32 (6 * (h3 403 12))) + x1)))), h3) else none)) else (zqv (m_R_thaws d x1 1 0 h3) fun h5 => (if x2 = 2 then some ((.inl (h5 403 74)), h5) else (if x2 = 3 then some ((.inl (h5 403 76)), h5) else some ((.inl (h5 403 73)), h5))))))))) else none) := (zF_at zMT_307).trans ((zgo_eq (zrn_ext d)).trans rfl)
