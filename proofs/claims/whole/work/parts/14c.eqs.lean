set_option maxRecDepth 100000 in
set_option maxHeartbeats 4000000 in
theorem em_B_feed (d : Nat) (x1 x2 x3 x4 x5 : Int) (h : zH) : m_B_feed (d + 1) x1 x2 x3 x4 x5 h = (if 1600 < w32 ((h 0 1) + 20) then (zqi (m_B_refuse d 0 h) fun a7 h6 => some ((.inl a7), h6)) else (zqv (m_B_putOnTape d x1 h) fun h1 => (zqv (m_B_putOnTape d x2 h1) fun h2 => (zqv (m_B_putOnTape d x3 h2) fun h3 => (zqv (m_B_putOnTape d x4 h3) fun h4 => (zqv (m_B_putOnTape d x5 h4) fun h5 => some ((.inl (h5 0 1)), h5))))))) := (zF_at zMT_124).trans ((zgo_eq (zrn_ext d)).trans rfl)
set_option maxRecDepth 100000 in
set_option maxHeartbeats 4000000 in
theorem em_B_putOnTape (d : Nat) (x1 : Int) (h : zH) : m_B_putOnTape (d + 1) x1 h = (l_B_putOnTape_3 d x1 24 h) := (zF_at zMT_125).trans ((zgo_eq (zrn_ext d)).trans rfl)
set_option maxRecDepth 100000 in
set_option maxHeartbeats 4000000 in
theorem el_B_putOnTape_3 (d : Nat) (x1 x2 : Int) (h : zH) : l_B_putOnTape_3 d x1 x2 h = (if x2 < 0 then some (.inl 0, h) else (if h 0 1 < 1600 then (if 0 ≤ h 0 1 ∧ h 0 1 < ((1600 : Nat) : Int) then (zlt (zset h 1 (h 0 1) (zand (zushr x1 x2) 255)) fun h1 => (zlt (zset h1 0 1 (w32 ((h1 0 1) + 1))) fun h2 => (l_B_putOnTape_3 d x1 (w32 (x2 + (-8))) h2))) else none) else (l_B_putOnTape_3 d x1 (w32 (x2 + (-8))) h))) := (zgo_eq (zrn_ext d)).trans rfl
set_option maxRecDepth 100000 in
set_option maxHeartbeats 4000000 in
theorem em_B_end (d : Nat) (x1 : Int) (h : zH) : m_B_end (d + 1) x1 h = (if x1 < 0 then (zqi (m_B_refuse d 0 h) fun a2 h1 => some ((.inl 0), h1)) else (if h 0 1 < x1 then (zqi (m_B_refuse d 0 h) fun a5 h4 => some ((.inl 0), h4)) else (zlt (zset h 0 1 x1) fun h3 => some ((.inl 1), h3)))) := (zF_at zMT_126).trans ((zgo_eq (zrn_ext d)).trans rfl)
set_option maxRecDepth 100000 in
set_option maxHeartbeats 4000000 in
theorem em_B_slope (d : Nat) (h : zH) : m_B_slope (d + 1) h = (zqi (m_SlopeReader_readInto d 1600 4 (h 0 8) 1 (h 0 1) h) fun a2 h1 => (zlt (zset h1 0 1 0) fun h3 => (if h3 5 11 = 0 then (zlt (zset h3 0 7 (h3 0 8)) fun h4 => (zlt (zset h4 0 8 (h3 0 7)) fun h5 => (zqv (m_State_begin d 67 (h5 0 7) h5) fun h6 => (zqv (m_B_forgetActs d h6) fun h7 => some ((.inl a2), h7))))) else (zqi (m_B_refuse d 1 h3) fun a9 h8 => some ((.inl a9), h8))))) := (zF_at zMT_127).trans ((zgo_eq (zrn_ext d)).trans rfl)
set_option maxRecDepth 100000 in
set_option maxHeartbeats 4000000 in
theorem em_B_fault (d : Nat) (x1 : Int) (h : zH) : m_B_fault (d + 1) x1 h = (if x1 = 0 then some ((.inl (h 5 11)), h) else (if x1 = 1 then some ((.inl (h 5 12)), h) else some ((.inl (-1)), h))) := (zF_at zMT_128).trans ((zgo_eq (zrn_ext d)).trans rfl)
set_option maxRecDepth 100000 in
set_option maxHeartbeats 4000000 in
theorem em_B_refuse (d : Nat) (x1 : Int) (h : zH) : m_B_refuse (d + 1) x1 h = (zqi (m_B_within d x1 6 h) fun a2 h1 => (if a2 = 0 then some ((.inl (-1)), h1) else (if 0 ≤ x1 ∧ x1 < ((6 : Nat) : Int) then (if 0 ≤ x1 ∧ x1 < ((6 : Nat) : Int) then (zlt (zset h1 3 x1 (w32 ((h1 3 x1) + 1))) fun h3 => some ((.inl (-1)), h3)) else none) else none))) := (zF_at zMT_129).trans ((zgo_eq (zrn_ext d)).trans rfl)
set_option maxRecDepth 100000 in
set_option maxHeartbeats 4000000 in
theorem em_B_within (d : Nat) (x0 x1 : Int) (h : zH) : m_B_within (d + 1) x0 x1 h = (if x0 < 0 then some ((.inl 0), h) else (if x0 < x1 then some ((.inl 1), h) else some ((.inl 0), h))) := (zF_at zMT_130).trans ((zgo_eq (zrn_ext d)).trans rfl)
set_option maxRecDepth 100000 in
set_option maxHeartbeats 4000000 in
theorem em_B_between (d : Nat) (x0 x1 x2 : Int) (h : zH) : m_B_between (d + 1) x0 x1 x2 h = (if x0 < x1 then some ((.inl 0), h) else (if x2 < x0 then some ((.inl 0), h) else some ((.inl 1), h))) := (zF_at zMT_131).trans ((zgo_eq (zrn_ext d)).trans rfl)
set_option maxRecDepth 100000 in
set_option maxHeartbeats 4000000 in
theorem em_B_oneIf (d : Nat) (x0 : Int) (h : zH) : m_B_oneIf (d + 1) x0 h = (if x0 = 0 then some ((.inl 0), h) else some ((.inl 1), h)) := (zF_at zMT_132).trans ((zgo_eq (zrn_ext d)).trans rfl)
set_option maxRecDepth 100000 in
set_option maxHeartbeats 4000000 in
theorem em_B_has (d : Nat) (x1 : Int) (h : zH) : m_B_has (d + 1) x1 h = (if x1 = 0 then (zpo (h 0 7) (zpo (h 0 7 + 8) (if 0 ≤ 4 ∧ 4 < ((26 : Nat) : Int) then some ((.inl (h (h 0 7 + 8) 4)), h) else none))) else (if x1 = 1 then (zpo (h 0 7) (zpo (h 0 7 + 8) (if 0 ≤ 7 ∧ 7 < ((26 : Nat) : Int) then some ((.inl (h (h 0 7 + 8) 7)), h) else none))) else (if x1 = 2 then (zpo (h 0 7) (zpo (h 0 7 + 8) (if 0 ≤ 10 ∧ 10 < ((26 : Nat) : Int) then some ((.inl (h (h 0 7 + 8) 10)), h) else none))) else (if x1 = 3 then (zqi (m_B_wallsNow d h) fun a6 h5 => some ((.inl a6), h5)) else (if x1 = 4 then (zpo (h 0 7) (zpo (h 0 7 + 8) (if 0 ≤ 13 ∧ 13 < ((26 : Nat) : Int) then some ((.inl (h (h 0 7 + 8) 13)), h) else none))) else (if x1 = 5 then (zpo (h 0 7) (zpo (h 0 7 + 8) (if 0 ≤ 15 ∧ 15 < ((26 : Nat) : Int) then some ((.inl (h (h 0 7 + 8) 15)), h) else none))) else (if x1 = 6 then (zpo (h 0 7) (zpo (h 0 7 + 8) (if 0 ≤ 16 ∧ 16 < ((26 : Nat) : Int) then some ((.inl (h (h 0 7 + 8) 16)), h) else none))) else (if x1 = 7 then (zpo (h 0 7) (some ((.inl (h (h 0 7) 0)), h))) else (if x1 = 8 then (zpo (h 0 7) (some ((.inl (h (h 0 7) 1)), h))) else (if x1 = 9 then (zqi (m_B_stonesNow d h) fun a4 h3 => some ((.inl a4), h3)) else (if x1 = 10 then (zqi (m_Long_bitCount d (h 67 7) h) fun a2 h1 => some ((.inl a2), h1)) else (if x1 = 11 then some ((.inl (h 84 2)), h) else (if x1 = 12 then some ((.inl (h 67 9)), h) else (if x1 = 13 then some ((.inl (h 0 5)), h) else some ((.inl (-1)), h))))))))))))))) := (zF_at zMT_133).trans ((zgo_eq (zrn_ext d)).trans rfl)
set_option maxRecDepth 100000 in
set_option maxHeartbeats 4000000 in
theorem em_B_wallsNow (d : Nat) (h : zH) : m_B_wallsNow (d + 1) h = (l_B_wallsNow_4 d 0 0 h) := (zF_at zMT_134).trans ((zgo_eq (zrn_ext d)).trans rfl)
set_option maxRecDepth 100000 in
set_option maxHeartbeats 4000000 in
theorem el_B_wallsNow_4 (d : Nat) (x1 x2 : Int) (h : zH) : l_B_wallsNow_4 d x1 x2 h = (zpo (h 0 7) (zqi (m_Slope_cells d (h 0 7) h) fun a2 h1 => (if x2 < a2 then (if 0 ≤ x2 ∧ x2 < ((60 : Nat) : Int) then (if 0 < h1 72 x2 then (zqi (m_B_oneIf d 1 h1) fun a6 h5 => (l_B_wallsNow_4 d (w32 (x1 + a6)) (w32 (x2 + 1)) h5)) else (zqi (m_B_oneIf d 0 h1) fun a4 h3 => (l_B_wallsNow_4 d (w32 (x1 + a4)) (w32 (x2 + 1)) h3))) else none) else some ((.inl x1), h1)))) := (zgo_eq (zrn_ext d)).trans rfl
set_option maxRecDepth 100000 in
set_option maxHeartbeats 4000000 in
theorem em_B_stonesNow (d : Nat) (h : zH) : m_B_stonesNow (d + 1) h = (l_B_stonesNow_4 d 0 0 h) := (zF_at zMT_135).trans ((zgo_eq (zrn_ext d)).trans rfl)
set_option maxRecDepth 100000 in
set_option maxHeartbeats 4000000 in
theorem el_B_stonesNow_4 (d : Nat) (x1 x2 : Int) (h : zH) : l_B_stonesNow_4 d x1 x2 h = (zpo (h 0 7) (zpo (h 0 7 + 8) (if 0 ≤ 7 ∧ 7 < ((26 : Nat) : Int) then (if x2 < h (h 0 7 + 8) 7 then (if 0 ≤ x2 ∧ x2 < ((10 : Nat) : Int) then (if h 68 x2 = (-1) then (zqi (m_B_oneIf d 0 h) fun a2 h1 => (l_B_stonesNow_4 d (w32 (x1 + a2)) (w32 (x2 + 1)) h1)) else (zqi (m_B_oneIf d 1 h) fun a4 h3 => (l_B_stonesNow_4 d (w32 (x1 + a4)) (w32 (x2 + 1)) h3))) else none) else some ((.inl x1), h)) else none))) := (zgo_eq (zrn_ext d)).trans rfl
set_option maxRecDepth 100000 in
set_option maxHeartbeats 4000000 in
theorem em_B_letter (d : Nat) (x1 x2 x3 : Int) (h : zH) : m_B_letter (d + 1) x1 x2 x3 h = (zqi (m_B_within d x1 3 h) fun a2 h1 => (if a2 = 0 then some ((.inl (-1)), h1) else (zqi (m_B_within d x3 6 h1) fun a4 h3 => (if a4 = 0 then some ((.inl (-1)), h3) else (zpo (h3 0 7) (zqi (m_Slope_named d (h3 0 7) x1 h3) fun a6 h5 => (zqi (m_B_within d x2 a6 h5) fun a8 h7 => (if a8 = 0 then some ((.inl (-1)), h7) else (zpo (h7 0 7) (zpo (h7 0 7 + 12) (if 0 ≤ x1 ∧ x1 < ((3 : Nat) : Int) then (zpo (h7 (h7 0 7 + 12) x1) (if 0 ≤ x2 ∧ x2 < ((10 : Nat) : Int) then (zqi (m_Tokens_letterOf d (h7 (h7 (h7 0 7 + 12) x1) x2) x3 h7) fun a10 h9 => some ((.inl a10), h9)) else none)) else none))))))))))) := (zF_at zMT_136).trans ((zgo_eq (zrn_ext d)).trans rfl)
set_option maxRecDepth 100000 in
set_option maxHeartbeats 4000000 in
theorem em_B_cell (d : Nat) (x1 x2 : Int) (h : zH) : m_B_cell (d + 1) x1 x2 h = (zpo (h 0 7) (zqi (m_Slope_hasCell d (h 0 7) x1 h) fun a2 h1 => (if a2 = 0 then some ((.inl (-1)), h1) else (if x2 = 0 then (zpo (h1 0 7) (zpo (h1 0 7 + 1) (if 0 ≤ x1 ∧ x1 < ((60 : Nat) : Int) then some ((.inl (h1 (h1 0 7 + 1) x1)), h1) else none))) else (if x2 = 1 then (if 0 ≤ x1 ∧ x1 < ((60 : Nat) : Int) then some ((.inl (h1 73 x1)), h1) else none) else (if x2 = 2 then (zpo (h1 0 7) (zpo (h1 0 7 + 6) (if 0 ≤ x1 ∧ x1 < ((60 : Nat) : Int) then some ((.inl (h1 (h1 0 7 + 6) x1)), h1) else none))) else (if x2 = 3 then (if 0 ≤ x1 ∧ x1 < ((60 : Nat) : Int) then some ((.inl (h1 71 x1)), h1) else none) else (if x2 = 4 then (if 0 ≤ x1 ∧ x1 < ((60 : Nat) : Int) then some ((.inl (h1 72 x1)), h1) else none) else (if x2 = 5 then (zpo (h1 0 7) (zpo (h1 0 7 + 7) (if 0 ≤ x1 ∧ x1 < ((60 : Nat) : Int) then some ((.inl (h1 (h1 0 7 + 7) x1)), h1) else none))) else (if x2 = 6 then (zpo (h1 0 7) (zpo (h1 0 7 + 2) (if 0 ≤ x1 ∧ x1 < ((60 : Nat) : Int) then some ((.inl (h1 (h1 0 7 + 2) x1)), h1) else none))) else (if x2 = 7 then (zpo (h1 0 7) (zpo (h1 0 7 + 3) (if 0 ≤ x1 ∧ x1 < ((60 : Nat) : Int) then some ((.inl (h1 (h1 0 7 + 3) x1)), h1) else none))) else (if x2 = 8 then (zqi (m_State_hasNet d 67 x1 h1) fun a6 h5 => (zqi (m_B_oneIf d a6 h5) fun a8 h7 => some ((.inl a8), h7))) else (if x2 = 9 then (zpo (h1 0 7) (zqi (m_Slope_bottomOf d (h1 0 7) x1 h1) fun a4 h3 => some ((.inl a4), h3))) else some ((.inl (-1)), h1)))))))))))))) := (zF_at zMT_137).trans ((zgo_eq (zrn_ext d)).trans rfl)
set_option maxRecDepth 100000 in
set_option maxHeartbeats 4000000 in
theorem em_B_stone (d : Nat) (x1 x2 : Int) (h : zH) : m_B_stone (d + 1) x1 x2 h = (zqi (m_B_hasStone d x1 h) fun a2 h1 => (if a2 = 0 then some ((.inl (-1)), h1) else (if x2 = 0 then (zpo (h1 0 7) (zpo (h1 0 7 + 13) (if 0 ≤ x1 ∧ x1 < ((10 : Nat) : Int) then some ((.inl (h1 (h1 0 7 + 13) x1)), h1) else none))) else (if x2 = 1 then (zpo (h1 0 7) (zpo (h1 0 7 + 14) (if 0 ≤ x1 ∧ x1 < ((10 : Nat) : Int) then some ((.inl (h1 (h1 0 7 + 14) x1)), h1) else none))) else (if x2 = 2 then (if 0 ≤ x1 ∧ x1 < ((10 : Nat) : Int) then some ((.inl (h1 68 x1)), h1) else none) else (if x2 = 3 then (if 0 ≤ x1 ∧ x1 < ((10 : Nat) : Int) then (zpo (h1 0 7) (zqi (m_Slope_ownerOf d (h1 0 7) (h1 68 x1) h1) fun a12 h11 => some ((.inl a12), h11))) else none) else (if x2 = 4 then (if 0 ≤ x1 ∧ x1 < ((10 : Nat) : Int) then some ((.inl (h1 69 x1)), h1) else none) else (if x2 = 5 then (if 0 ≤ x1 ∧ x1 < ((10 : Nat) : Int) then some ((.inl (h1 70 x1)), h1) else none) else (if x2 = 6 then (zqi (m_State_leastPush d 67 (h1 0 7) x1 h1) fun a10 h9 => some ((.inl a10), h9)) else (if x2 = 7 then (zqi (m_State_leansOn d 67 (h1 0 7) x1 h1) fun a4 h3 => (if a4 = (-1) then (zqi (m_B_oneIf d 0 h3) fun a6 h5 => some ((.inl a6), h5)) else (zqi (m_B_oneIf d 1 h3) fun a8 h7 => some ((.inl a8), h7)))) else some ((.inl (-1)), h1))))))))))) := (zF_at zMT_138).trans ((zgo_eq (zrn_ext d)).trans rfl)
set_option maxRecDepth 100000 in
set_option maxHeartbeats 4000000 in
theorem em_B_hasStone (d : Nat) (x1 : Int) (h : zH) : m_B_hasStone (d + 1) x1 h = (zpo (h 0 7) (zpo (h 0 7 + 8) (if 0 ≤ 7 ∧ 7 < ((26 : Nat) : Int) then (zqi (m_B_within d x1 (h (h 0 7 + 8) 7) h) fun a2 h1 => (zbo a2 (some ((.inl a2), h1)))) else none))) := (zF_at zMT_139).trans ((zgo_eq (zrn_ext d)).trans rfl)
set_option maxRecDepth 100000 in
set_option maxHeartbeats 4000000 in
theorem em_B_stoneLies (d : Nat) (x1 : Int) (h : zH) : m_B_stoneLies (d + 1) x1 h = (zqi (m_B_hasStone d x1 h) fun a2 h1 => (if a2 = 0 then some ((.inl 0), h1) else (if 0 ≤ x1 ∧ x1 < ((10 : Nat) : Int) then (if h1 68 x1 = (-1) then some ((.inl 0), h1) else some ((.inl 1), h1)) else none))) := (zF_at zMT_140).trans ((zgo_eq (zrn_ext d)).trans rfl)
set_option maxRecDepth 100000 in
set_option maxHeartbeats 4000000 in
theorem em_B_hasOwner (d : Nat) (x1 : Int) (h : zH) : m_B_hasOwner (d + 1) x1 h = (zpo (h 0 7) (zpo (h 0 7 + 8) (if 0 ≤ 4 ∧ 4 < ((26 : Nat) : Int) then (zqi (m_B_within d x1 (h (h 0 7 + 8) 4) h) fun a2 h1 => (zbo a2 (some ((.inl a2), h1)))) else none))) := (zF_at zMT_141).trans ((zgo_eq (zrn_ext d)).trans rfl)
set_option maxRecDepth 100000 in
set_option maxHeartbeats 4000000 in
theorem em_B_house (d : Nat) (x1 x2 : Int) (h : zH) : m_B_house (d + 1) x1 x2 h = (zpo (h 0 7) (zpo (h 0 7 + 8) (if 0 ≤ 10 ∧ 10 < ((26 : Nat) : Int) then (zqi (m_B_within d x1 (h (h 0 7 + 8) 10) h) fun a2 h1 => (if a2 = 0 then some ((.inl (-1)), h1) else (if x2 = 0 then (zpo (h1 0 7) (zpo (h1 0 7 + 16) (if 0 ≤ x1 ∧ x1 < ((8 : Nat) : Int) then some ((.inl (h1 (h1 0 7 + 16) x1)), h1) else none))) else (if x2 = 1 then (zpo (h1 0 7) (zpo (h1 0 7 + 17) (if 0 ≤ x1 ∧ x1 < ((8 : Nat) : Int) then some ((.inl (h1 (h1 0 7 + 17) x1)), h1) else none))) else (if x2 = 2 then (zqi (m_State_isRuin d 67 x1 h1) fun a6 h5 => (zqi (m_B_oneIf d a6 h5) fun a8 h7 => some ((.inl a8), h7))) else (if x2 = 3 then (zpo (h1 0 7) (zpo (h1 0 7 + 17) (if 0 ≤ x1 ∧ x1 < ((8 : Nat) : Int) then (zpo (h1 0 7) (zqi (m_Slope_ownerOf d (h1 0 7) (h1 (h1 0 7 + 17) x1) h1) fun a4 h3 => some ((.inl a4), h3))) else none))) else some ((.inl (-1)), h1))))))) else none))) := (zF_at zMT_142).trans ((zgo_eq (zrn_ext d)).trans rfl)
set_option maxRecDepth 100000 in
set_option maxHeartbeats 4000000 in
theorem em_B_owner (d : Nat) (x1 x2 : Int) (h : zH) : m_B_owner (d + 1) x1 x2 h = (zqi (m_B_hasOwner d x1 h) fun a2 h1 => (if a2 = 0 then some ((.inl (-1000000000)), h1) else (if x2 = 0 then (zqi (m_B_cellsOf d x1 h1) fun a10 h9 => some ((.inl a10), h9)) else (if x2 = 1 then (zqi (m_B_stonesOf d x1 0 h1) fun a8 h7 => some ((.inl a8), h7)) else (if x2 = 2 then (zqi (m_B_stonesOf d x1 1 h1) fun a6 h5 => some ((.inl a6), h5)) else (if x2 = 3 then (zqi (m_B_wholeHousesOf d x1 h1) fun a4 h3 => some ((.inl a4), h3)) else (if x2 = 4 then (if 0 ≤ x1 ∧ x1 < ((6 : Nat) : Int) then some ((.inl (h1 74 x1)), h1) else none) else some ((.inl (-1000000000)), h1)))))))) := (zF_at zMT_143).trans ((zgo_eq (zrn_ext d)).trans rfl)
set_option maxRecDepth 100000 in
set_option maxHeartbeats 4000000 in
theorem em_B_cellsOf (d : Nat) (x1 : Int) (h : zH) : m_B_cellsOf (d + 1) x1 h = (l_B_cellsOf_4 d x1 0 0 h) := (zF_at zMT_144).trans ((zgo_eq (zrn_ext d)).trans rfl)
set_option maxRecDepth 100000 in
set_option maxHeartbeats 4000000 in
theorem el_B_cellsOf_4 (d : Nat) (x1 x2 x3 : Int) (h : zH) : l_B_cellsOf_4 d x1 x2 x3 h = (zpo (h 0 7) (zqi (m_Slope_cells d (h 0 7) h) fun a2 h1 => (if x3 < a2 then (zpo (h1 0 7) (zpo (h1 0 7 + 6) (if 0 ≤ x3 ∧ x3 < ((60 : Nat) : Int) then (if h1 (h1 0 7 + 6) x3 = x1 then (zqi (m_B_oneIf d 1 h1) fun a6 h5 => (l_B_cellsOf_4 d x1 (w32 (x2 + a6)) (w32 (x3 + 1)) h5)) else (zqi (m_B_oneIf d 0 h1) fun a4 h3 => (l_B_cellsOf_4 d x1 (w32 (x2 + a4)) (w32 (x3 + 1)) h3))) else none))) else some ((.inl x2), h1)))) := (zgo_eq (zrn_ext d)).trans rfl
set_option maxRecDepth 100000 in
set_option maxHeartbeats 4000000 in
theorem em_B_stonesOf (d : Nat) (x1 x2 : Int) (h : zH) : m_B_stonesOf (d + 1) x1 x2 h = (l_B_stonesOf_5 d x1 x2 0 0 h) := (zF_at zMT_145).trans ((zgo_eq (zrn_ext d)).trans rfl)
set_option maxRecDepth 100000 in
set_option maxHeartbeats 4000000 in
theorem el_B_stonesOf_5 (d : Nat) (x1 x2 x3 x4 : Int) (h : zH) : l_B_stonesOf_5 d x1 x2 x3 x4 h = (zpo (h 0 7) (zpo (h 0 7 + 8) (if 0 ≤ 7 ∧ 7 < ((26 : Nat) : Int) then (if x4 < h (h 0 7 + 8) 7 then (if 0 ≤ x4 ∧ x4 < ((10 : Nat) : Int) then (zpo (h 0 7) (zqi (m_Slope_ownerOf d (h 0 7) (h 68 x4) h) fun a2 h1 => (if a2 = x1 then (if x2 = 0 then (l_B_stonesOf_5 d x1 x2 (w32 (x3 + 1)) (w32 (x4 + 1)) h1) else (zpo (h1 0 7) (zpo (h1 0 7 + 13) (if 0 ≤ x4 ∧ x4 < ((10 : Nat) : Int) then (l_B_stonesOf_5 d x1 x2 (w32 (x3 + (h1 (h1 0 7 + 13) x4))) (w32 (x4 + 1)) h1) else none)))) else (l_B_stonesOf_5 d x1 x2 x3 (w32 (x4 + 1)) h1)))) else none) else some ((.inl x3), h)) else none))) := (zgo_eq (zrn_ext d)).trans rfl
set_option maxRecDepth 100000 in
set_option maxHeartbeats 4000000 in
theorem em_B_wholeHousesOf (d : Nat) (x1 : Int) (h : zH) : m_B_wholeHousesOf (d + 1) x1 h = (l_B_wholeHousesOf_4 d x1 0 0 h) := (zF_at zMT_146).trans ((zgo_eq (zrn_ext d)).trans rfl)
set_option maxRecDepth 100000 in
set_option maxHeartbeats 4000000 in
theorem el_B_wholeHousesOf_4 (d : Nat) (x1 x2 x3 : Int) (h : zH) : l_B_wholeHousesOf_4 d x1 x2 x3 h = (zpo (h 0 7) (zpo (h 0 7 + 8) (if 0 ≤ 10 ∧ 10 < ((26 : Nat) : Int) then (if x3 < h (h 0 7 + 8) 10 then (zpo (h 0 7) (zpo (h 0 7 + 17) (if 0 ≤ x3 ∧ x3 < ((8 : Nat) : Int) then (zpo (h 0 7) (zqi (m_Slope_ownerOf d (h 0 7) (h (h 0 7 + 17) x3) h) fun a2 h1 => (if a2 = x1 then (zqi (m_State_isRuin d 67 x3 h1) fun a6 h5 => (if a6 = 0 then (zqi (m_B_oneIf d 1 h5) fun a10 h9 => (l_B_wholeHousesOf_4 d x1 (w32 (x2 + a10)) (w32 (x3 + 1)) h9)) else (zqi (m_B_oneIf d 0 h5) fun a8 h7 => (l_B_wholeHousesOf_4 d x1 (w32 (x2 + a8)) (w32 (x3 + 1)) h7)))) else (zqi (m_B_oneIf d 0 h1) fun a4 h3 => (l_B_wholeHousesOf_4 d x1 (w32 (x2 + a4)) (w32 (x3 + 1)) h3))))) else none))) else some ((.inl x2), h)) else none))) := (zgo_eq (zrn_ext d)).trans rfl
set_option maxRecDepth 100000 in
set_option maxHeartbeats 4000000 in
theorem em_B_due (d : Nat) (x1 x2 : Int) (h : zH) : m_B_due (d + 1) x1 x2 h = (zqi (m_B_within d x1 (h 67 9) h) fun a2 h1 => (if a2 = 0 then some ((.inl (-1)), h1) else (zqi (m_B_within d x2 4 h1) fun a4 h3 => (if a4 = 0 then some ((.inl (-1)), h3) else (zqi (m_Ledger_told d 326 x1 x2 h3) fun a6 h5 => some ((.inl a6), h5)))))) := (zF_at zMT_147).trans ((zgo_eq (zrn_ext d)).trans rfl)
set_option maxRecDepth 100000 in
set_option maxHeartbeats 4000000 in
theorem em_B_law (d : Nat) (x1 x2 x3 x4 x5 : Int) (h : zH) : m_B_law (d + 1) x1 x2 x3 x4 x5 h = (zqi (m_B_between d x1 0 9999 h) fun a2 h1 => (if a2 = 0 then (l_B_law_60 d x1 x2 x3 x4 x5 0 h1) else (zqi (m_B_between d x2 0 9999 h1) fun a4 h3 => (if a4 = 0 then (l_B_law_60 d x1 x2 x3 x4 x5 0 h3) else (zqi (m_B_between d x3 0 9999 h3) fun a6 h5 => (if a6 = 0 then (l_B_law_60 d x1 x2 x3 x4 x5 0 h5) else (zqi (m_B_between d x4 0 1 h5) fun a8 h7 => (if a8 = 0 then (l_B_law_60 d x1 x2 x3 x4 x5 0 h7) else (zqi (m_B_between d x5 0 9999 h7) fun a10 h9 => (if a10 = 0 then (l_B_law_60 d x1 x2 x3 x4 x5 0 h9) else (l_B_law_60 d x1 x2 x3 x4 x5 1 h9))))))))))) := (zF_at zMT_148).trans ((zgo_eq (zrn_ext d)).trans rfl)
set_option maxRecDepth 100000 in
set_option maxHeartbeats 4000000 in
theorem el_B_law_60 (d : Nat) (x1 x2 x3 x4 x5 s0 : Int) (h : zH) : l_B_law_60 d x1 x2 x3 x4 x5 s0 h = (if s0 = 0 then some ((.inl (-1)), h) else (zpo (h 0 7) (zpo (h 0 7 + 21) (zqi (m_LawBook_dueOf d (h 0 7 + 21) x1 x2 x3 x4 x5 h) fun a2 h1 => some ((.inl a2), h1))))) := (zgo_eq (zrn_ext d)).trans rfl
set_option maxRecDepth 100000 in
set_option maxHeartbeats 4000000 in
theorem em_B_remember (d : Nat) (h : zH) : m_B_remember (d + 1) h = (zqv (m_History_keep d 84 67 h) fun h1 => (zqv (m_NetSearch_forget d 331 h1) fun h2 => some (.inl 0, h2))) := (zF_at zMT_149).trans ((zgo_eq (zrn_ext d)).trans rfl)
set_option maxRecDepth 100000 in
set_option maxHeartbeats 4000000 in
theorem em_B_forgetActs (d : Nat) (h : zH) : m_B_forgetActs (d + 1) h = (zlt (zset h 84 2 0) fun h1 => (zqv (m_NetSearch_forget d 331 h1) fun h2 => some (.inl 0, h2))) := (zF_at zMT_150).trans ((zgo_eq (zrn_ext d)).trans rfl)
set_option maxRecDepth 100000 in
set_option maxHeartbeats 4000000 in
theorem em_B_lever (d : Nat) (x1 x2 : Int) (h : zH) : m_B_lever (d + 1) x1 x2 h = (zqi (m_B_stoneLies d x1 h) fun a2 h1 => (if a2 = 0 then (zqi (m_B_refuse d 2 h1) fun a4 h3 => some ((.inl a4), h3)) else (zqi (m_B_between d x2 1 99 h1) fun a6 h5 => (if a6 = 0 then (zqi (m_B_refuse d 2 h5) fun a11 h10 => some ((.inl a11), h10)) else (zqv (m_B_remember d h5) fun h7 => (zqv (m_Mover_pushOne d 328 (h7 0 7) 67 x1 (w32 (10 * x2)) h7) fun h8 => (zqv (m_Ledger_settle d 326 (h8 0 7) 67 328 h8) fun h9 => some ((.inl (h9 328 1)), h9)))))))) := (zF_at zMT_151).trans ((zgo_eq (zrn_ext d)).trans rfl)
set_option maxRecDepth 100000 in
set_option maxHeartbeats 4000000 in
theorem em_B_spring (d : Nat) (x1 : Int) (h : zH) : m_B_spring (d + 1) x1 h = (zqi (m_B_between d x1 0 9999 h) fun a2 h1 => (if a2 = 0 then (zqi (m_B_refuse d 2 h1) fun a6 h5 => some ((.inl a6), h5)) else (zqi (m_B_springNow d x1 h1) fun a4 h3 => some ((.inl a4), h3)))) := (zF_at zMT_152).trans ((zgo_eq (zrn_ext d)).trans rfl)
set_option maxRecDepth 100000 in
set_option maxHeartbeats 4000000 in
theorem em_B_springNow (d : Nat) (x1 : Int) (h : zH) : m_B_springNow (d + 1) x1 h = (zqv (m_B_remember d h) fun h1 => (zqv (m_Mover_pushAll d 328 (h1 0 7) 67 x1 h1) fun h2 => (zqv (m_Ledger_settle d 326 (h2 0 7) 67 328 h2) fun h3 => some ((.inl (h3 328 2)), h3)))) := (zF_at zMT_153).trans ((zgo_eq (zrn_ext d)).trans rfl)
set_option maxRecDepth 100000 in
set_option maxHeartbeats 4000000 in
theorem em_B_goOn (d : Nat) (x1 : Int) (h : zH) : m_B_goOn (d + 1) x1 h = (zqi (m_B_between d x1 1 20 h) fun a2 h1 => (if a2 = 0 then (zqi (m_B_refuse d 2 h1) fun a4 h3 => some ((.inl a4), h3)) else (zpo (h1 0 7) (zpo (h1 0 7 + 8) (if 0 ≤ 13 ∧ 13 < ((26 : Nat) : Int) then (if h1 (h1 0 7 + 8) 13 = 0 then (zqi (m_B_refuse d 2 h1) fun a6 h5 => some ((.inl a6), h5)) else (l_B_goOn_33 d x1 0 0 h1)) else none))))) := (zF_at zMT_154).trans ((zgo_eq (zrn_ext d)).trans rfl)
set_option maxRecDepth 100000 in
set_option maxHeartbeats 4000000 in
theorem el_B_goOn_33 (d : Nat) (x1 x2 x3 : Int) (h : zH) : l_B_goOn_33 d x1 x2 x3 h = (if x3 < x1 then (zpo (h 0 7) (zqi (m_B_drawnThaw d h) fun a2 h1 => (zpo (h 0 7 + 18) (if 0 ≤ a2 ∧ a2 < ((6 : Nat) : Int) then (zqi (m_B_springNow d (h1 (h 0 7 + 18) a2) h1) fun a4 h3 => (l_B_goOn_33 d x1 (w32 (x2 + a4)) (w32 (x3 + 1)) h3)) else none)))) else some ((.inl x2), h)) := (zgo_eq (zrn_ext d)).trans rfl
set_option maxRecDepth 100000 in
set_option maxHeartbeats 4000000 in
theorem em_B_drawnThaw (d : Nat) (h : zH) : m_B_drawnThaw (d + 1) h = (zpo (h 0 7) (zqi (m_Slope_oddsOfAll d (h 0 7) h) fun a2 h1 => (zqi (m_B_draw d a2 h1) fun a4 h3 => (l_B_drawnThaw_16 d a4 0 0 h3)))) := (zF_at zMT_155).trans ((zgo_eq (zrn_ext d)).trans rfl)
set_option maxRecDepth 100000 in
set_option maxHeartbeats 4000000 in
theorem el_B_drawnThaw_16 (d : Nat) (x1 x2 x3 : Int) (h : zH) : l_B_drawnThaw_16 d x1 x2 x3 h = (zpo (h 0 7) (zpo (h 0 7 + 8) (if 0 ≤ 13 ∧ 13 < ((26 : Nat) : Int) then (if x3 < h (h 0 7 + 8) 13 then (zpo (h 0 7) (zpo (h 0 7 + 19) (if 0 ≤ x3 ∧ x3 < ((6 : Nat) : Int) then (if x1 < w32 (x2 + (h (h 0 7 + 19) x3)) then some ((.inl x3), h) else (l_B_drawnThaw_16 d x1 (w32 (x2 + (h (h 0 7 + 19) x3))) (w32 (x3 + 1)) h)) else none))) else some ((.inl 0), h)) else none))) := (zgo_eq (zrn_ext d)).trans rfl
set_option maxRecDepth 100000 in
set_option maxHeartbeats 4000000 in
theorem em_B_draw (d : Nat) (x1 : Int) (h : zH) : m_B_draw (d + 1) x1 h = (zlt (zset h 0 5 (w32 (zland (w64 ((w64 (1103515245 * (h 0 5))) + 12345)) 2147483647))) fun h1 => (if 0 < x1 then (zdz x1 (some ((.inl (Int.tmod (w32 (Int.tdiv (h1 0 5) 64)) x1)), h1))) else some ((.inl 0), h1))) := (zF_at zMT_156).trans ((zgo_eq (zrn_ext d)).trans rfl)
set_option maxRecDepth 100000 in
set_option maxHeartbeats 4000000 in
theorem em_B_seed (d : Nat) (x1 : Int) (h : zH) : m_B_seed (d + 1) x1 h = (if x1 < 0 then (zqi (m_B_refuse d 5 h) fun a3 h2 => some ((.inl 0), h2)) else (zlt (zset h 0 5 x1) fun h1 => some ((.inl 1), h1))) := (zF_at zMT_157).trans ((zgo_eq (zrn_ext d)).trans rfl)
set_option maxRecDepth 100000 in
set_option maxHeartbeats 4000000 in
theorem em_B_net (d : Nat) (x1 x2 : Int) (h : zH) : m_B_net (d + 1) x1 x2 h = (zpo (h 0 7) (zqi (m_Slope_hasCell d (h 0 7) x1 h) fun a2 h1 => (if a2 = 0 then (zqi (m_B_refuse d 3 h1) fun a4 h3 => some ((.inl 0), h3)) else (zqi (m_State_hasNet d 67 x1 h1) fun a6 h5 => (if a6 = x2 then (zqi (m_B_refuse d 3 h5) fun a10 h9 => some ((.inl 0), h9)) else (zqv (m_B_remember d h5) fun h7 => (zlt (zset h7 67 7 (zlxor (h7 67 7) (zlshl 1 x1))) fun h8 => some ((.inl 1), h8)))))))) := (zF_at zMT_158).trans ((zgo_eq (zrn_ext d)).trans rfl)
set_option maxRecDepth 100000 in
set_option maxHeartbeats 4000000 in
theorem em_B_wall (d : Nat) (x1 x2 : Int) (h : zH) : m_B_wall (d + 1) x1 x2 h = (zpo (h 0 7) (zqi (m_Slope_hasCell d (h 0 7) x1 h) fun a2 h1 => (if a2 = 0 then (zqi (m_B_refuse d 3 h1) fun a4 h3 => some ((.inl 0), h3)) else (zqi (m_B_between d x2 1 9999 h1) fun a6 h5 => (if a6 = 0 then (zqi (m_B_refuse d 3 h5) fun a8 h7 => some ((.inl 0), h7)) else (zqi (m_State_isBarred d 67 (h5 0 7) x1 h5) fun a10 h9 => (if a10 = 0 then (zqv (m_B_remember d h9) fun h11 => (if 0 ≤ x1 ∧ x1 < ((60 : Nat) : Int) then (zlt (zset h11 72 x1 x2) fun h12 => some ((.inl 1), h12)) else none)) else (zqi (m_B_refuse d 3 h9) fun a14 h13 => some ((.inl 0), h13))))))))) := (zF_at zMT_159).trans ((zgo_eq (zrn_ext d)).trans rfl)
set_option maxRecDepth 100000 in
set_option maxHeartbeats 4000000 in
theorem em_B_dig (d : Nat) (x1 x2 : Int) (h : zH) : m_B_dig (d + 1) x1 x2 h = (zpo (h 0 7) (zqi (m_Slope_hasCell d (h 0 7) x1 h) fun a2 h1 => (if a2 = 0 then (zqi (m_B_refuse d 3 h1) fun a4 h3 => some ((.inl a4), h3)) else (zqi (m_B_between d x2 1 99 h1) fun a6 h5 => (if a6 = 0 then (zqi (m_B_refuse d 3 h5) fun a12 h11 => some ((.inl a12), h11)) else (zqv (m_B_remember d h5) fun h7 => (if 0 ≤ x1 ∧ x1 < ((60 : Nat) : Int) then (zqi (m_Math_min d 99 (w32 ((h7 73 x1) + x2)) h7) fun a9 h8 => (if 0 ≤ x1 ∧ x1 < ((60 : Nat) : Int) then (zlt (zset h8 73 x1 a9) fun h10 => (if 0 ≤ x1 ∧ x1 < ((60 : Nat) : Int) then some ((.inl (h10 73 x1)), h10) else none)) else none)) else none))))))) := (zF_at zMT_160).trans ((zgo_eq (zrn_ext d)).trans rfl)
set_option maxRecDepth 100000 in
set_option maxHeartbeats 4000000 in
theorem em_B_take (d : Nat) (x1 : Int) (h : zH) : m_B_take (d + 1) x1 h = (zqi (m_B_stoneLies d x1 h) fun a2 h1 => (if a2 = 0 then (zqi (m_B_refuse d 3 h1) fun a6 h5 => some ((.inl a6), h5)) else (zqv (m_B_remember d h1) fun h3 => (zqv (m_State_move d 67 x1 (-1) h3) fun h4 => (zpo (h4 0 7) (zpo (h4 0 7 + 13) (if 0 ≤ x1 ∧ x1 < ((10 : Nat) : Int) then some ((.inl (h4 (h4 0 7 + 13) x1)), h4) else none))))))) := (zF_at zMT_161).trans ((zgo_eq (zrn_ext d)).trans rfl)
set_option maxRecDepth 100000 in
set_option maxHeartbeats 4000000 in
theorem em_B_undo (d : Nat) (h : zH) : m_B_undo (d + 1) h = (zqi (m_History_giveBack d 84 67 h) fun a2 h1 => (if a2 = 0 then (zqi (m_B_refuse d 4 h1) fun a5 h4 => some ((.inl 0), h4)) else (zqv (m_NetSearch_forget d 331 h1) fun h3 => some ((.inl 1), h3)))) := (zF_at zMT_162).trans ((zgo_eq (zrn_ext d)).trans rfl)
set_option maxRecDepth 100000 in
set_option maxHeartbeats 4000000 in
theorem em_B_tryPush (d : Nat) (x1 x2 : Int) (h : zH) : m_B_tryPush (d + 1) x1 x2 h = (zqv (m_State_copy d 75 67 h) fun h1 => (zqv (m_Mover_pushOne d 328 (h1 0 7) 75 x1 x2 h1) fun h2 => some (.inl 0, h2))) := (zF_at zMT_163).trans ((zgo_eq (zrn_ext d)).trans rfl)
set_option maxRecDepth 100000 in
set_option maxHeartbeats 4000000 in
theorem em_B_tryThaw (d : Nat) (x1 : Int) (h : zH) : m_B_tryThaw (d + 1) x1 h = (zqv (m_State_copy d 75 67 h) fun h1 => (zpo (h1 0 7) (zpo (h1 0 7 + 18) (if 0 ≤ x1 ∧ x1 < ((6 : Nat) : Int) then (zqv (m_Mover_pushAll d 328 (h1 0 7) 75 (h1 (h1 0 7 + 18) x1) h1) fun h2 => some (.inl 0, h2)) else none)))) := (zF_at zMT_164).trans ((zgo_eq (zrn_ext d)).trans rfl)
set_option maxRecDepth 100000 in
set_option maxHeartbeats 4000000 in
theorem em_B_path (d : Nat) (x1 x2 x3 : Int) (h : zH) : m_B_path (d + 1) x1 x2 x3 h = (zqi (m_B_stoneLies d x1 h) fun a2 h1 => (if a2 = 0 then some ((.inl (-1)), h1) else (zqi (m_B_between d x2 0 99999 h1) fun a4 h3 => (if a4 = 0 then some ((.inl (-1)), h3) else (zqv (m_B_tryPush d x1 x2 h3) fun h5 => (if x3 = (-1) then some ((.inl (h5 328 1)), h5) else (zqi (m_B_within d x3 (h5 328 1) h5) fun a7 h6 => (if a7 = 0 then some ((.inl (-1)), h6) else (if 0 ≤ x3 ∧ x3 < ((60 : Nat) : Int) then some ((.inl (h6 329 x3)), h6) else none))))))))) := (zF_at zMT_165).trans ((zgo_eq (zrn_ext d)).trans rfl)
set_option maxRecDepth 100000 in
set_option maxHeartbeats 4000000 in
theorem em_B_roll (d : Nat) (x1 x2 x3 : Int) (h : zH) : m_B_roll (d + 1) x1 x2 x3 h = (zqi (m_B_stoneLies d x1 h) fun a2 h1 => (if a2 = 0 then some ((.inl (-1)), h1) else (zqi (m_B_between d x2 0 99999 h1) fun a4 h3 => (if a4 = 0 then some ((.inl (-1)), h3) else (zqv (m_B_tryPush d x1 x2 h3) fun h5 => (if x3 = 0 then (if 0 ≤ x1 ∧ x1 < ((10 : Nat) : Int) then some ((.inl (h5 76 x1)), h5) else none) else (if x3 = 1 then some ((.inl (h5 328 3)), h5) else (if x3 = 2 then some ((.inl (h5 328 6)), h5) else (if x3 = 3 then some ((.inl (h5 328 2)), h5) else (if x3 = 4 then some ((.inl (h5 328 4)), h5) else (if x3 = 5 then some ((.inl (h5 328 7)), h5) else some ((.inl (-1)), h5)))))))))))) := (zF_at zMT_166).trans ((zgo_eq (zrn_ext d)).trans rfl)
set_option maxRecDepth 100000 in
set_option maxHeartbeats 4000000 in
theorem em_B_thaw (d : Nat) (x1 x2 : Int) (h : zH) : m_B_thaw (d + 1) x1 x2 h = (zpo (h 0 7) (zpo (h 0 7 + 8) (if 0 ≤ 13 ∧ 13 < ((26 : Nat) : Int) then (zqi (m_B_within d x1 (h (h 0 7 + 8) 13) h) fun a2 h1 => (if a2 = 0 then some ((.inl (-1)), h1) else (zqv (m_B_tryThaw d x1 h1) fun h3 => (if x2 = 0 then (zpo (h3 0 7) (zpo (h3 0 7 + 18) (if 0 ≤ x1 ∧ x1 < ((6 : Nat) : Int) then some ((.inl (h3 (h3 0 7 + 18) x1)), h3) else none))) else (if x2 = 1 then (zpo (h3 0 7) (zpo (h3 0 7 + 19) (if 0 ≤ x1 ∧ x1 < ((6 : Nat) : Int) then some ((.inl (h3 (h3 0 7 + 19) x1)), h3) else none))) else (if x2 = 2 then some ((.inl (h3 328 3)), h3) else (if x2 = 3 then some ((.inl (h3 328 4)), h3) else (if x2 = 4 then some ((.inl (h3 328 2)), h3) else some ((.inl (-1)), h3))))))))) else none))) := (zF_at zMT_167).trans ((zgo_eq (zrn_ext d)).trans rfl)
set_option maxRecDepth 100000 in
set_option maxHeartbeats 4000000 in
theorem em_B_lies (d : Nat) (x1 x2 : Int) (h : zH) : m_B_lies (d + 1) x1 x2 h = (zqi (m_B_hasStone d x1 h) fun a2 h1 => (if a2 = 0 then some ((.inl (-1)), h1) else (zpo (h1 0 7) (zpo (h1 0 7 + 8) (if 0 ≤ 13 ∧ 13 < ((26 : Nat) : Int) then (if h1 (h1 0 7 + 8) 13 = 0 then some ((.inl (-1)), h1) else (if x2 = (-1) then (if 0 ≤ x1 ∧ x1 < ((10 : Nat) : Int) then (if h1 68 x1 = (-1) then some ((.inl 1000), h1) else some ((.inl 0), h1)) else none) else (zpo (h1 0 7) (zqi (m_Slope_hasCell d (h1 0 7) x2 h1) fun a4 h3 => (if a4 = 0 then some ((.inl (-1)), h3) else (l_B_lies_67 d x1 x2 0 0 h3)))))) else none))))) := (zF_at zMT_168).trans ((zgo_eq (zrn_ext d)).trans rfl)
set_option maxRecDepth 100000 in
set_option maxHeartbeats 4000000 in
theorem el_B_lies_67 (d : Nat) (x1 x2 x3 x4 : Int) (h : zH) : l_B_lies_67 d x1 x2 x3 x4 h = (zpo (h 0 7) (zpo (h 0 7 + 8) (if 0 ≤ 13 ∧ 13 < ((26 : Nat) : Int) then (if x4 < h (h 0 7 + 8) 13 then (zqv (m_B_tryThaw d x4 h) fun h3 => (if 0 ≤ x1 ∧ x1 < ((10 : Nat) : Int) then (if h3 76 x1 = x2 then (zpo (h3 0 7) (zpo (h3 0 7 + 19) (if 0 ≤ x4 ∧ x4 < ((6 : Nat) : Int) then (l_B_lies_67 d x1 x2 (w32 (x3 + (h3 (h3 0 7 + 19) x4))) (w32 (x4 + 1)) h3) else none))) else (l_B_lies_67 d x1 x2 (w32 (x3 + 0)) (w32 (x4 + 1)) h3)) else none)) else (zqi (m_B_thousandthsOfAll d x3 h) fun a2 h1 => some ((.inl a2), h1))) else none))) := (zgo_eq (zrn_ext d)).trans rfl
set_option maxRecDepth 100000 in
set_option maxHeartbeats 4000000 in
theorem em_B_hit (d : Nat) (x1 : Int) (h : zH) : m_B_hit (d + 1) x1 h = (zpo (h 0 7) (zpo (h 0 7 + 8) (if 0 ≤ 10 ∧ 10 < ((26 : Nat) : Int) then (zqi (m_B_within d x1 (h (h 0 7 + 8) 10) h) fun a2 h1 => (if a2 = 0 then some ((.inl (-1)), h1) else (zpo (h1 0 7) (zpo (h1 0 7 + 8) (if 0 ≤ 13 ∧ 13 < ((26 : Nat) : Int) then (if h1 (h1 0 7 + 8) 13 = 0 then some ((.inl (-1)), h1) else (zqi (m_State_isRuin d 67 x1 h1) fun a4 h3 => (if a4 = 0 then (l_B_hit_49 d x1 0 0 h3) else some ((.inl 0), h3)))) else none))))) else none))) := (zF_at zMT_169).trans ((zgo_eq (zrn_ext d)).trans rfl)
set_option maxRecDepth 100000 in
set_option maxHeartbeats 4000000 in
theorem el_B_hit_49 (d : Nat) (x1 x2 x3 : Int) (h : zH) : l_B_hit_49 d x1 x2 x3 h = (zpo (h 0 7) (zpo (h 0 7 + 8) (if 0 ≤ 13 ∧ 13 < ((26 : Nat) : Int) then (if x3 < h (h 0 7 + 8) 13 then (zqv (m_B_tryThaw d x3 h) fun h3 => (zqi (m_State_isRuin d 75 x1 h3) fun a5 h4 => (if a5 = 0 then (l_B_hit_49 d x1 (w32 (x2 + 0)) (w32 (x3 + 1)) h4) else (zpo (h4 0 7) (zpo (h4 0 7 + 19) (if 0 ≤ x3 ∧ x3 < ((6 : Nat) : Int) then (l_B_hit_49 d x1 (w32 (x2 + (h4 (h4 0 7 + 19) x3))) (w32 (x3 + 1)) h4) else none)))))) else (zqi (m_B_thousandthsOfAll d x2 h) fun a2 h1 => some ((.inl a2), h1))) else none))) := (zgo_eq (zrn_ext d)).trans rfl
set_option maxRecDepth 100000 in
set_option maxHeartbeats 4000000 in
theorem em_B_thousandthsOfAll (d : Nat) (x1 : Int) (h : zH) : m_B_thousandthsOfAll (d + 1) x1 h = (zpo (h 0 7) (zqi (m_Slope_oddsOfAll d (h 0 7) h) fun a2 h1 => (if 0 < a2 then (zdz a2 (some ((.inl (w32 (Int.tdiv (w32 (1000 * x1)) a2))), h1))) else some ((.inl 0), h1)))) := (zF_at zMT_170).trans ((zgo_eq (zrn_ext d)).trans rfl)
set_option maxRecDepth 100000 in
set_option maxHeartbeats 4000000 in
theorem em_B_worst (d : Nat) (x1 : Int) (h : zH) : m_B_worst (d + 1) x1 h = (zqi (m_B_within d x1 2 h) fun a2 h1 => (if a2 = 0 then some ((.inl (-1)), h1) else (zpo (h1 0 7) (zpo (h1 0 7 + 8) (if 0 ≤ 13 ∧ 13 < ((26 : Nat) : Int) then (if h1 (h1 0 7 + 8) 13 = 0 then some ((.inl (-1)), h1) else (l_B_worst_30 d x1 0 (-1) 0 h1)) else none))))) := (zF_at zMT_171).trans ((zgo_eq (zrn_ext d)).trans rfl)
set_option maxRecDepth 100000 in
set_option maxHeartbeats 4000000 in
theorem el_B_worst_30 (d : Nat) (x1 x2 x3 x4 : Int) (h : zH) : l_B_worst_30 d x1 x2 x3 x4 h = (zpo (h 0 7) (zpo (h 0 7 + 8) (if 0 ≤ 13 ∧ 13 < ((26 : Nat) : Int) then (if x4 < h (h 0 7 + 8) 13 then (zqv (m_B_tryThaw d x4 h) fun h1 => (if x3 < h1 328 4 then (l_B_worst_30 d x1 x4 (h1 328 4) (w32 (x4 + 1)) h1) else (l_B_worst_30 d x1 x2 x3 (w32 (x4 + 1)) h1))) else (if x1 = 0 then some ((.inl x2), h) else some ((.inl x3), h))) else none))) := (zgo_eq (zrn_ext d)).trans rfl
set_option maxRecDepth 100000 in
set_option maxHeartbeats 4000000 in
theorem em_B_men (d : Nat) (x1 x2 : Int) (h : zH) : m_B_men (d + 1) x1 x2 h = (zqi (m_B_stoneLies d x1 h) fun a2 h1 => (if a2 = 0 then some ((.inl (-1)), h1) else (zqi (m_B_hasOwner d x2 h1) fun a4 h3 => (if a4 = 0 then some ((.inl (-1)), h3) else (zqi (m_State_fewestMen d 67 (h3 0 7) x1 h3) fun a6 h5 => (if a6 = 1 then (l_B_men_58 d x1 x2 a6 h5) else (if 0 ≤ x1 ∧ x1 < ((10 : Nat) : Int) then (zpo (h5 0 7) (zqi (m_Slope_ownerOf d (h5 0 7) (h5 68 x1) h5) fun a8 h7 => (if a8 = x2 then some ((.inl 1), h7) else (l_B_men_58 d x1 x2 a6 h7)))) else none))))))) := (zF_at zMT_172).trans ((zgo_eq (zrn_ext d)).trans rfl)
set_option maxRecDepth 100000 in
set_option maxHeartbeats 4000000 in
theorem el_B_men_58 (d : Nat) (x1 x2 x3 : Int) (h : zH) : l_B_men_58 d x1 x2 x3 h = (zqi (m_B_between d x3 1 99 h) fun a2 h1 => (if a2 = 0 then some ((.inl (-1)), h1) else (zqv (m_B_tryPush d x1 (w32 (10 * x3)) h1) fun h3 => (if 0 ≤ x1 ∧ x1 < ((10 : Nat) : Int) then (zpo (h3 0 7) (zqi (m_Slope_ownerOf d (h3 0 7) (h3 76 x1) h3) fun a5 h4 => (if a5 = x2 then some ((.inl x3), h4) else some ((.inl (-1)), h4)))) else none)))) := (zgo_eq (zrn_ext d)).trans rfl
set_option maxRecDepth 100000 in
set_option maxHeartbeats 4000000 in
theorem em_B_crew (d : Nat) (x1 x2 x3 : Int) (h : zH) : m_B_crew (d + 1) x1 x2 x3 h = (zqi (m_B_areLying d x1 3 h) fun a2 h1 => (if a2 = 0 then some ((.inl (-1)), h1) else (zqi (m_B_hasOwner d x2 h1) fun a4 h3 => (if a4 = 0 then some ((.inl (-1)), h3) else (zqi (m_B_between d x3 (-1) 2 h3) fun a6 h5 => (if a6 = 0 then (zqi (m_B_between d x3 10 12 h5) fun a8 h7 => (if a8 = 0 then some ((.inl (-1)), h7) else (l_B_crew_41 d x1 x2 x3 h7))) else (l_B_crew_41 d x1 x2 x3 h5))))))) := (zF_at zMT_173).trans ((zgo_eq (zrn_ext d)).trans rfl)
set_option maxRecDepth 100000 in
set_option maxHeartbeats 4000000 in
theorem el_B_crew_41 (d : Nat) (x1 x2 x3 : Int) (h : zH) : l_B_crew_41 d x1 x2 x3 h = (zqi (m_CrewSearch_find d 343 (h 0 7) 67 x1 x2 h) fun a2 h1 => (if a2 = 0 then some ((.inl (-1)), h1) else (if x3 = (-1) then some ((.inl (h1 343 10)), h1) else (if x3 < 10 then (zqi (m_CrewSearch_menOf d 343 x3 h1) fun a6 h5 => some ((.inl a6), h5)) else (zqi (m_CrewSearch_stoneInOrder d 343 (w32 (x3 - 10)) h1) fun a4 h3 => some ((.inl a4), h3)))))) := (zgo_eq (zrn_ext d)).trans rfl
set_option maxRecDepth 100000 in
set_option maxHeartbeats 4000000 in
theorem em_B_areLying (d : Nat) (x1 x2 : Int) (h : zH) : m_B_areLying (d + 1) x1 x2 h = (zpo (h 0 7) (zpo (h 0 7 + 8) (if 0 ≤ 7 ∧ 7 < ((26 : Nat) : Int) then (if zand x1 (zxor (w32 ((zshl 1 (h (h 0 7 + 8) 7)) - 1)) (-1)) = 0 then (zqi (m_Integer_bitCount d x1 h) fun a2 h1 => (zqi (m_B_between d a2 1 x2 h1) fun a4 h3 => (if a4 = 0 then some ((.inl 0), h3) else (l_B_areLying_40 d x1 0 h3)))) else some ((.inl 0), h)) else none))) := (zF_at zMT_174).trans ((zgo_eq (zrn_ext d)).trans rfl)
set_option maxRecDepth 100000 in
set_option maxHeartbeats 4000000 in
theorem el_B_areLying_40 (d : Nat) (x1 x4 : Int) (h : zH) : l_B_areLying_40 d x1 x4 h = (zpo (h 0 7) (zpo (h 0 7 + 8) (if 0 ≤ 7 ∧ 7 < ((26 : Nat) : Int) then (if x4 < h (h 0 7 + 8) 7 then (if zand (zshr x1 x4) 1 = 1 then (if 0 ≤ x4 ∧ x4 < ((10 : Nat) : Int) then (if h 68 x4 = (-1) then some ((.inl 0), h) else (l_B_areLying_40 d x1 (w32 (x4 + 1)) h)) else none) else (l_B_areLying_40 d x1 (w32 (x4 + 1)) h)) else some ((.inl 1), h)) else none))) := (zgo_eq (zrn_ext d)).trans rfl
set_option maxRecDepth 100000 in
set_option maxHeartbeats 4000000 in
theorem em_B_nets (d : Nat) (x1 : Int) (h : zH) : m_B_nets (d + 1) x1 h = (zpo (h 0 7) (zqi (m_Slope_cells d (h 0 7) h) fun a2 h1 => (if a2 = 0 then some ((.inl (-1)), h1) else (if x1 < (-1) then some ((.inl (-1)), h1) else (if x1 < 3 then (zqv (m_NetSearch_find d 331 (h1 0 7) 67 h1) fun h3 => (if x1 = (-1) then some ((.inl (h3 331 7)), h3) else (zqi (m_NetSearch_placeOf d 331 x1 h3) fun a5 h4 => some ((.inl a5), h4)))) else some ((.inl (-1)), h1)))))) := (zF_at zMT_175).trans ((zgo_eq (zrn_ext d)).trans rfl)
set_option maxRecDepth 100000 in
set_option maxHeartbeats 4000000 in
theorem em_B_dowry (d : Nat) (x1 x2 x3 x4 : Int) (h : zH) : m_B_dowry (d + 1) x1 x2 x3 x4 h = (zqi (m_B_stoneLies d x1 h) fun a2 h1 => (if a2 = 0 then some ((.inl (-1)), h1) else (zqi (m_B_hasOwner d x2 h1) fun a4 h3 => (if a4 = 0 then some ((.inl (-1)), h3) else (zqi (m_B_between d x3 0 3 h3) fun a6 h5 => (if a6 = 0 then some ((.inl (-1)), h5) else (zqi (m_B_within d x4 2 h5) fun a8 h7 => (if a8 = 0 then some ((.inl (-1)), h7) else (if 0 < x3 then (zpo (h7 0 7) (zpo (h7 0 7 + 8) (if 0 ≤ 13 ∧ 13 < ((26 : Nat) : Int) then (if h7 (h7 0 7 + 8) 13 = 0 then some ((.inl (-1)), h7) else (l_B_dowry_55 d x1 x2 x3 x4 h7)) else none))) else (l_B_dowry_55 d x1 x2 x3 x4 h7)))))))))) := (zF_at zMT_176).trans ((zgo_eq (zrn_ext d)).trans rfl)
set_option maxRecDepth 100000 in
set_option maxHeartbeats 4000000 in
theorem el_B_dowry_55 (d : Nat) (x1 x2 x3 x4 : Int) (h : zH) : l_B_dowry_55 d x1 x2 x3 x4 h = (if x4 = 1 then (if x3 = 0 then (zqi (m_B_oneIf d 1 h) fun a6 h5 => some ((.inl a6), h5)) else (if 0 ≤ x1 ∧ x1 < ((10 : Nat) : Int) then (zpo (h 0 7) (zqi (m_Slope_ownerOf d (h 0 7) (h 68 x1) h) fun a8 h7 => (if a8 = x2 then (zqi (m_B_oneIf d 1 h7) fun a12 h11 => some ((.inl a12), h11)) else (zqi (m_B_oneIf d 0 h7) fun a10 h9 => some ((.inl a10), h9))))) else none)) else (zql (m_B_powerOfOdds d x3 h) fun a2 h1 => (if 0 < zlc a2 0 then (zql (m_B_worthWithin d 67 x1 x2 x3 h1) fun a4 h3 => (zdz a2 (some ((.inl (w32 (w64 (Int.tdiv (w64 (1000 * a4)) a2)))), h3)))) else some ((.inl 0), h1)))) := (zgo_eq (zrn_ext d)).trans rfl
set_option maxRecDepth 100000 in
set_option maxHeartbeats 4000000 in
theorem em_B_powerOfOdds (d : Nat) (x1 : Int) (h : zH) : m_B_powerOfOdds (d + 1) x1 h = (l_B_powerOfOdds_5 d x1 1 0 h) := (zF_at zMT_177).trans ((zgo_eq (zrn_ext d)).trans rfl)
set_option maxRecDepth 100000 in
set_option maxHeartbeats 4000000 in
theorem el_B_powerOfOdds_5 (d : Nat) (x1 x2 x4 : Int) (h : zH) : l_B_powerOfOdds_5 d x1 x2 x4 h = (if x4 < x1 then (zpo (h 0 7) (zqi (m_Slope_oddsOfAll d (h 0 7) h) fun a2 h1 => (l_B_powerOfOdds_5 d x1 (w64 (x2 * a2)) (w32 (x4 + 1)) h1))) else some ((.inr (.inl x2)), h)) := (zgo_eq (zrn_ext d)).trans rfl
set_option maxRecDepth 100000 in
set_option maxHeartbeats 4000000 in
theorem em_B_worthWithin (d : Nat) (x1 x2 x3 x4 : Int) (h : zH) : m_B_worthWithin (d + 1) x1 x2 x3 x4 h = (zpo x1 (zpo (x1 + 1) (if 0 ≤ x2 ∧ x2 < ((10 : Nat) : Int) then (zpo (h 0 7) (zqi (m_Slope_ownerOf d (h 0 7) (h (x1 + 1) x2) h) fun a2 h1 => (if a2 = x3 then (zpo (h1 0 7) (zpo (h1 0 7 + 13) (if 0 ≤ x2 ∧ x2 < ((10 : Nat) : Int) then (zql (m_B_powerOfOdds d x4 h1) fun a6 h5 => some ((.inr (.inl (w64 ((h1 (h1 0 7 + 13) x2) * a6)))), h5)) else none))) else (zqi (m_B_between d x4 1 (((3 : Nat)) : Int) h1) fun a4 h3 => (if a4 = 0 then some ((.inr (.inl 0)), h3) else (if 0 ≤ w32 (x4 - 1) ∧ w32 (x4 - 1) < ((3 : Nat) : Int) then (l_B_worthWithin_68 d x1 x2 x3 x4 (h3 83 (w32 (x4 - 1))) 0 0 h3) else none)))))) else none))) := (zF_at zMT_178).trans ((zgo_eq (zrn_ext d)).trans rfl)
set_option maxRecDepth 100000 in
set_option maxHeartbeats 4000000 in
theorem el_B_worthWithin_68 (d : Nat) (x1 x2 x3 x4 x5 x6 x8 : Int) (h : zH) : l_B_worthWithin_68 d x1 x2 x3 x4 x5 x6 x8 h = (zpo (h 0 7) (zpo (h 0 7 + 8) (if 0 ≤ 13 ∧ 13 < ((26 : Nat) : Int) then (if x8 < h (h 0 7 + 8) 13 then (if x5 < 0 then some ((.inr (.inl x6)), h) else (zpo x5 (zqv (m_State_copy d x5 x1 h) fun h1 => (zpo (h1 0 7) (zpo (h1 0 7 + 18) (if 0 ≤ x8 ∧ x8 < ((6 : Nat) : Int) then (zqv (m_Mover_pushAll d 328 (h1 0 7) x5 (h1 (h1 0 7 + 18) x8) h1) fun h2 => (zpo (h2 0 7) (zpo (h2 0 7 + 19) (if 0 ≤ x8 ∧ x8 < ((6 : Nat) : Int) then (zql (m_B_worthWithin d x5 x2 x3 (w32 (x4 - 1)) h2) fun a4 h3 => (l_B_worthWithin_68 d x1 x2 x3 x4 x5 (w64 (x6 + (w64 ((h2 (h2 0 7 + 19) x8) * a4)))) (w32 (x8 + 1)) h3)) else none)))) else none)))))) else some ((.inr (.inl x6)), h)) else none))) := (zgo_eq (zrn_ext d)).trans rfl
set_option maxRecDepth 100000 in
set_option maxHeartbeats 4000000 in
theorem em_B_whence (d : Nat) (x1 x2 : Int) (h : zH) : m_B_whence (d + 1) x1 x2 h = (zqi (m_B_stoneLies d x1 h) fun a2 h1 => (if a2 = 0 then some ((.inl (-1)), h1) else (l_B_whence_15 d x1 x2 0 0 h1))) := (zF_at zMT_179).trans ((zgo_eq (zrn_ext d)).trans rfl)
set_option maxRecDepth 100000 in
set_option maxHeartbeats 4000000 in
theorem el_B_whence_15 (d : Nat) (x1 x2 x3 x4 : Int) (h : zH) : l_B_whence_15 d x1 x2 x3 x4 h = (zpo (h 0 7) (zqi (m_Slope_cells d (h 0 7) h) fun a2 h1 => (if x4 < a2 then (zqi (m_B_mayHaveComeFrom d x1 x4 h1) fun a4 h3 => (if a4 = 0 then (l_B_whence_15 d x1 x2 x3 (w32 (x4 + 1)) h3) else (if x3 = x2 then some ((.inl x4), h3) else (l_B_whence_15 d x1 x2 (w32 (x3 + 1)) (w32 (x4 + 1)) h3)))) else (if x2 = (-1) then some ((.inl x3), h1) else some ((.inl (-1)), h1))))) := (zgo_eq (zrn_ext d)).trans rfl
set_option maxRecDepth 100000 in
set_option maxHeartbeats 4000000 in
theorem em_B_mayHaveComeFrom (d : Nat) (x1 x2 : Int) (h : zH) : m_B_mayHaveComeFrom (d + 1) x1 x2 h = (zqi (m_State_isBarred d 67 (h 0 7) x2 h) fun a2 h1 => (if a2 = 0 then (zqi (m_State_hasNet d 67 x2 h1) fun a4 h3 => (if a4 = 0 then (zpo (h3 0 7) (zpo (h3 0 7 + 2) (if 0 ≤ x2 ∧ x2 < ((60 : Nat) : Int) then (if h3 (h3 0 7 + 2) x2 = (-1) then some ((.inl 0), h3) else (zqv (m_State_copy d 75 67 h3) fun h5 => (zqv (m_State_move d 75 x1 x2 h5) fun h6 => (zqi (m_Mover_rollsAlone d 328 (h6 0 7) 75 x1 h6) fun a8 h7 => (if a8 = 0 then some ((.inl 0), h7) else (if 0 ≤ x1 ∧ x1 < ((10 : Nat) : Int) then (if 0 ≤ x1 ∧ x1 < ((10 : Nat) : Int) then (if h7 76 x1 = h7 68 x1 then some ((.inl 1), h7) else some ((.inl 0), h7)) else none) else none)))))) else none))) else some ((.inl 0), h3))) else some ((.inl 0), h1))) := (zF_at zMT_180).trans ((zgo_eq (zrn_ext d)).trans rfl)
set_option maxRecDepth 100000 in
set_option maxHeartbeats 4000000 in
theorem em_B_leans (d : Nat) (x1 x2 : Int) (h : zH) : m_B_leans (d + 1) x1 x2 h = (zqi (m_B_hasStone d x1 h) fun a2 h1 => (if a2 = 0 then some ((.inl (-1)), h1) else (zqi (m_B_hasStone d x2 h1) fun a4 h3 => (if a4 = 0 then some ((.inl (-1)), h3) else (zqi (m_State_leansOn d 67 (h3 0 7) x1 h3) fun a6 h5 => (l_B_leans_34 d x2 a6 0 h5)))))) := (zF_at zMT_181).trans ((zgo_eq (zrn_ext d)).trans rfl)
set_option maxRecDepth 100000 in
set_option maxHeartbeats 4000000 in
theorem el_B_leans_34 (d : Nat) (x2 x3 x4 : Int) (h : zH) : l_B_leans_34 d x2 x3 x4 h = (if x4 < 10 then (if x3 = (-1) then some ((.inl 0), h) else (if x3 = x2 then some ((.inl 1), h) else (zqi (m_State_leansOn d 67 (h 0 7) x3 h) fun a2 h1 => (l_B_leans_34 d x2 a2 (w32 (x4 + 1)) h1)))) else some ((.inl 0), h)) := (zgo_eq (zrn_ext d)).trans rfl
set_option maxRecDepth 100000 in
set_option maxHeartbeats 4000000 in
theorem em_B_quarry (d : Nat) (x1 x2 : Int) (h : zH) : m_B_quarry (d + 1) x1 x2 h = (zqi (m_B_areLying d x1 6 h) fun a2 h1 => (if a2 = 0 then some ((.inl (-1)), h1) else (if x2 < (-1) then some ((.inl (-1)), h1) else (zqi (m_B_listQuarried d x1 h1) fun a4 h3 => (zqv (m_B_countWays d a4 h3) fun h5 => (if x2 = (-1) then (if 0 ≤ 0 ∧ 0 < ((64 : Nat) : Int) then some ((.inl (h5 377 0)), h5) else none) else (if x2 < a4 then (if 0 ≤ 0 ∧ 0 < ((64 : Nat) : Int) then (if 0 < h5 377 0 then (zqi (m_B_quarriedAt d x2 a4 h5) fun a7 h6 => some ((.inl a7), h6)) else some ((.inl (-1)), h5)) else none) else some ((.inl (-1)), h5)))))))) := (zF_at zMT_182).trans ((zgo_eq (zrn_ext d)).trans rfl)
set_option maxRecDepth 100000 in
set_option maxHeartbeats 4000000 in
theorem em_B_listQuarried (d : Nat) (x1 : Int) (h : zH) : m_B_listQuarried (d + 1) x1 h = (l_B_listQuarried_4 d x1 0 0 h) := (zF_at zMT_183).trans ((zgo_eq (zrn_ext d)).trans rfl)
set_option maxRecDepth 100000 in
set_option maxHeartbeats 4000000 in
theorem el_B_listQuarried_4 (d : Nat) (x1 x2 x3 : Int) (h : zH) : l_B_listQuarried_4 d x1 x2 x3 h = (if x3 < 10 then (if zand (zshr x1 x3) 1 = 1 then (if x2 < 6 then (if 0 ≤ x2 ∧ x2 < ((6 : Nat) : Int) then (zlt (zset h 378 x2 x3) fun h1 => (l_B_listQuarried_4 d x1 (w32 (x2 + 1)) (w32 (x3 + 1)) h1)) else none) else (l_B_listQuarried_4 d x1 x2 (w32 (x3 + 1)) h)) else (l_B_listQuarried_4 d x1 x2 (w32 (x3 + 1)) h)) else some ((.inl x2), h)) := (zgo_eq (zrn_ext d)).trans rfl
set_option maxRecDepth 100000 in
set_option maxHeartbeats 4000000 in
theorem em_B_countWays (d : Nat) (x1 : Int) (h : zH) : m_B_countWays (d + 1) x1 h = (l_B_countWays_8 d x1 (w32 ((zshl 1 x1) - 1)) (w32 ((zshl 1 x1) - 1)) h) := (zF_at zMT_184).trans ((zgo_eq (zrn_ext d)).trans rfl)
set_option maxRecDepth 100000 in
set_option maxHeartbeats 4000000 in
theorem el_B_countWays_8 (d : Nat) (x1 x2 x3 : Int) (h : zH) : l_B_countWays_8 d x1 x2 x3 h = (if x3 < 0 then some (.inl 0, h) else (if x3 = x2 then (zqi (m_B_oneIf d 1 h) fun a4 h3 => (l_B_countWays_30 d x1 x2 x3 a4 0 h3)) else (zqi (m_B_oneIf d 0 h) fun a2 h1 => (l_B_countWays_30 d x1 x2 x3 a2 0 h1)))) := (zgo_eq (zrn_ext d)).trans rfl
set_option maxRecDepth 100000 in
set_option maxHeartbeats 4000000 in
theorem el_B_countWays_30 (d : Nat) (x1 x2 x3 x4 x5 : Int) (h : zH) : l_B_countWays_30 d x1 x2 x3 x4 x5 h = (if x5 < x1 then (if zand (zshr x3 x5) 1 = 0 then (if 0 ≤ zor x3 (zshl 1 x5) ∧ zor x3 (zshl 1 x5) < ((64 : Nat) : Int) then (l_B_countWays_30 d x1 x2 x3 (w32 (x4 + (h 377 (zor x3 (zshl 1 x5))))) (w32 (x5 + 1)) h) else none) else (l_B_countWays_30 d x1 x2 x3 x4 (w32 (x5 + 1)) h)) else (if x3 = 0 then (if 0 ≤ x3 ∧ x3 < ((64 : Nat) : Int) then (zlt (zset h 377 x3 x4) fun h1 => (l_B_countWays_8 d x1 x2 (w32 (x3 + (-1))) h1)) else none) else (zqi (m_B_nothingStartsWithout d x3 x1 h) fun a3 h2 => (if a3 = 0 then (if 0 ≤ x3 ∧ x3 < ((64 : Nat) : Int) then (zlt (zset h2 377 x3 0) fun h4 => (l_B_countWays_8 d x1 x2 (w32 (x3 + (-1))) h4)) else none) else (if 0 ≤ x3 ∧ x3 < ((64 : Nat) : Int) then (zlt (zset h2 377 x3 x4) fun h5 => (l_B_countWays_8 d x1 x2 (w32 (x3 + (-1))) h5)) else none))))) := (zgo_eq (zrn_ext d)).trans rfl
set_option maxRecDepth 100000 in
set_option maxHeartbeats 4000000 in
theorem em_B_nothingStartsWithout (d : Nat) (x1 x2 : Int) (h : zH) : m_B_nothingStartsWithout (d + 1) x1 x2 h = (zqv (m_State_copy d 75 67 h) fun h1 => (l_B_nothingStartsWithout_13 d x1 x2 0 h1)) := (zF_at zMT_185).trans ((zgo_eq (zrn_ext d)).trans rfl)
set_option maxRecDepth 100000 in
set_option maxHeartbeats 4000000 in
theorem el_B_nothingStartsWithout_13 (d : Nat) (x1 x2 x3 : Int) (h : zH) : l_B_nothingStartsWithout_13 d x1 x2 x3 h = (if x3 < x2 then (if zand (zshr x1 x3) 1 = 1 then (if 0 ≤ x3 ∧ x3 < ((6 : Nat) : Int) then (zqv (m_State_move d 75 (h 378 x3) (-1) h) fun h1 => (l_B_nothingStartsWithout_13 d x1 x2 (w32 (x3 + 1)) h1)) else none) else (l_B_nothingStartsWithout_13 d x1 x2 (w32 (x3 + 1)) h)) else (l_B_nothingStartsWithout_49 d 0 h)) := (zgo_eq (zrn_ext d)).trans rfl
set_option maxRecDepth 100000 in
set_option maxHeartbeats 4000000 in
theorem el_B_nothingStartsWithout_49 (d : Nat) (x3 : Int) (h : zH) : l_B_nothingStartsWithout_49 d x3 h = (zpo (h 0 7) (zpo (h 0 7 + 8) (if 0 ≤ 7 ∧ 7 < ((26 : Nat) : Int) then (if x3 < h (h 0 7 + 8) 7 then (zqi (m_State_leastPush d 75 (h 0 7) x3 h) fun a2 h1 => (if a2 = 0 then (zqi (m_State_leansOn d 75 (h1 0 7) x3 h1) fun a4 h3 => (if a4 = (-1) then some ((.inl 0), h3) else (l_B_nothingStartsWithout_49 d (w32 (x3 + 1)) h3))) else (l_B_nothingStartsWithout_49 d (w32 (x3 + 1)) h1))) else some ((.inl 1), h)) else none))) := (zgo_eq (zrn_ext d)).trans rfl
set_option maxRecDepth 100000 in
set_option maxHeartbeats 4000000 in
theorem em_B_quarriedAt (d : Nat) (x1 x2 : Int) (h : zH) : m_B_quarriedAt (d + 1) x1 x2 h = (l_B_quarriedAt_8 d x1 x2 0 (-1) 0 h) := (zF_at zMT_186).trans ((zgo_eq (zrn_ext d)).trans rfl)
set_option maxRecDepth 100000 in
set_option maxHeartbeats 4000000 in
theorem el_B_quarriedAt_8 (d : Nat) (x1 x2 x3 x4 x5 : Int) (h : zH) : l_B_quarriedAt_8 d x1 x2 x3 x4 x5 h = (if x1 < x5 then some ((.inl x4), h) else (l_B_quarriedAt_20 d x1 x2 x3 (-1) x5 0 h)) := (zgo_eq (zrn_ext d)).trans rfl
set_option maxRecDepth 100000 in
set_option maxHeartbeats 4000000 in
theorem el_B_quarriedAt_20 (d : Nat) (x1 x2 x3 x4 x5 x6 : Int) (h : zH) : l_B_quarriedAt_20 d x1 x2 x3 x4 x5 x6 h = (if x6 < x2 then (if x4 = (-1) then (if zand (zshr x3 x6) 1 = 0 then (if 0 ≤ zor x3 (zshl 1 x6) ∧ zor x3 (zshl 1 x6) < ((64 : Nat) : Int) then (if 0 < h 377 (zor x3 (zshl 1 x6)) then (if 0 ≤ x6 ∧ x6 < ((6 : Nat) : Int) then (l_B_quarriedAt_20 d x1 x2 (zor x3 (zshl 1 x6)) (h 378 x6) x5 (w32 (x6 + 1)) h) else none) else (l_B_quarriedAt_20 d x1 x2 x3 x4 x5 (w32 (x6 + 1)) h)) else none) else (l_B_quarriedAt_20 d x1 x2 x3 x4 x5 (w32 (x6 + 1)) h)) else (l_B_quarriedAt_8 d x1 x2 x3 x4 (w32 (x5 + 1)) h)) else (l_B_quarriedAt_8 d x1 x2 x3 x4 (w32 (x5 + 1)) h)) := (zgo_eq (zrn_ext d)).trans rfl
set_option maxRecDepth 100000 in
set_option maxHeartbeats 4000000 in
theorem em_B_ropes (d : Nat) (x1 : Int) (h : zH) : m_B_ropes (d + 1) x1 h = (zqi (m_B_heaviestStone d h) fun a2 h1 => (if a2 = (-1) then some ((.inl (-1)), h1) else (zpo (h1 0 7) (zpo (h1 0 7 + 13) (if 0 ≤ a2 ∧ a2 < ((10 : Nat) : Int) then (zpo (h1 0 7) (if 0 ≤ a2 ∧ a2 < ((10 : Nat) : Int) then (zpo (h1 0 7 + 3) (if 0 ≤ h1 68 a2 ∧ h1 68 a2 < ((60 : Nat) : Int) then (zpo (h1 0 7) (zqi (m_Slope_ropesTogether d (h1 0 7) h1) fun a4 h3 => (if x1 = 0 then some ((.inl a2), h3) else (if x1 = 1 then some ((.inl (w32 ((h1 (h1 0 7 + 13) a2) * (h1 (h1 0 7 + 3) (h1 68 a2))))), h3) else (if x1 = 2 then (zpo (h3 0 7) (zqi (m_Slope_ropesTogether d (h3 0 7) h3) fun a14 h13 => some ((.inl a14), h13))) else (if x1 = 3 then (zqi (m_B_neededRopes d (w32 (a4 - (w32 ((h1 (h1 0 7 + 13) a2) * (h1 (h1 0 7 + 3) (h1 68 a2)))))) h3) fun a12 h11 => some ((.inl a12), h11)) else (if x1 = 4 then (zqi (m_B_neededPairs d (w32 (a4 - (w32 ((h1 (h1 0 7 + 13) a2) * (h1 (h1 0 7 + 3) (h1 68 a2)))))) h3) fun a10 h9 => some ((.inl a10), h9)) else (if x1 = 5 then (if w32 (a4 - (w32 ((h1 (h1 0 7 + 13) a2) * (h1 (h1 0 7 + 3) (h1 68 a2))))) < 0 then (zqi (m_B_oneIf d 0 h3) fun a6 h5 => some ((.inl a6), h5)) else (zqi (m_B_oneIf d 1 h3) fun a8 h7 => some ((.inl a8), h7))) else some ((.inl (-1)), h3))))))))) else none)) else none)) else none))))) := (zF_at zMT_187).trans ((zgo_eq (zrn_ext d)).trans rfl)
set_option maxRecDepth 100000 in
set_option maxHeartbeats 4000000 in
theorem em_B_heaviestStone (d : Nat) (h : zH) : m_B_heaviestStone (d + 1) h = (l_B_heaviestStone_4 d (-1) 0 h) := (zF_at zMT_188).trans ((zgo_eq (zrn_ext d)).trans rfl)
set_option maxRecDepth 100000 in
set_option maxHeartbeats 4000000 in
theorem el_B_heaviestStone_4 (d : Nat) (x1 x2 : Int) (h : zH) : l_B_heaviestStone_4 d x1 x2 h = (zpo (h 0 7) (zpo (h 0 7 + 8) (if 0 ≤ 7 ∧ 7 < ((26 : Nat) : Int) then (if x2 < h (h 0 7 + 8) 7 then (if 0 ≤ x2 ∧ x2 < ((10 : Nat) : Int) then (if h 68 x2 = (-1) then (l_B_heaviestStone_4 d x1 (w32 (x2 + 1)) h) else (if x1 = (-1) then (l_B_heaviestStone_4 d x2 (w32 (x2 + 1)) h) else (zpo (h 0 7) (zpo (h 0 7 + 13) (if 0 ≤ x2 ∧ x2 < ((10 : Nat) : Int) then (zpo (h 0 7) (zpo (h 0 7 + 13) (if 0 ≤ x1 ∧ x1 < ((10 : Nat) : Int) then (if h (h 0 7 + 13) x1 < h (h 0 7 + 13) x2 then (l_B_heaviestStone_4 d x2 (w32 (x2 + 1)) h) else (l_B_heaviestStone_4 d x1 (w32 (x2 + 1)) h)) else none))) else none))))) else none) else some ((.inl x1), h)) else none))) := (zgo_eq (zrn_ext d)).trans rfl
set_option maxRecDepth 100000 in
set_option maxHeartbeats 4000000 in
theorem em_B_neededRopes (d : Nat) (x1 : Int) (h : zH) : m_B_neededRopes (d + 1) x1 h = (l_B_neededRopes_4 d x1 0 0 h) := (zF_at zMT_189).trans ((zgo_eq (zrn_ext d)).trans rfl)
set_option maxRecDepth 100000 in
set_option maxHeartbeats 4000000 in
theorem el_B_neededRopes_4 (d : Nat) (x1 x2 x3 : Int) (h : zH) : l_B_neededRopes_4 d x1 x2 x3 h = (zpo (h 0 7) (zpo (h 0 7 + 8) (if 0 ≤ 15 ∧ 15 < ((26 : Nat) : Int) then (if x3 < h (h 0 7 + 8) 15 then (zpo (h 0 7) (zpo (h 0 7 + 20) (if 0 ≤ x3 ∧ x3 < ((9 : Nat) : Int) then (if x1 < h (h 0 7 + 20) x3 then (l_B_neededRopes_37 d x1 x3 1 x2 h) else (l_B_neededRopes_37 d x1 x3 0 x2 h)) else none))) else some ((.inl x2), h)) else none))) := (zgo_eq (zrn_ext d)).trans rfl
set_option maxRecDepth 100000 in
set_option maxHeartbeats 4000000 in
theorem el_B_neededRopes_37 (d : Nat) (x1 x3 s0 s1 : Int) (h : zH) : l_B_neededRopes_37 d x1 x3 s0 s1 h = (zqi (m_B_oneIf d s0 h) fun a2 h1 => (l_B_neededRopes_4 d x1 (zor s1 (zshl a2 x3)) (w32 (x3 + 1)) h1)) := (zgo_eq (zrn_ext d)).trans rfl
set_option maxRecDepth 100000 in
set_option maxHeartbeats 4000000 in
theorem em_B_neededPairs (d : Nat) (x1 : Int) (h : zH) : m_B_neededPairs (d + 1) x1 h = (l_B_neededPairs_4 d x1 0 0 h) := (zF_at zMT_190).trans ((zgo_eq (zrn_ext d)).trans rfl)
set_option maxRecDepth 100000 in
set_option maxHeartbeats 4000000 in
theorem el_B_neededPairs_4 (d : Nat) (x1 x2 x3 : Int) (h : zH) : l_B_neededPairs_4 d x1 x2 x3 h = (zpo (h 0 7) (zpo (h 0 7 + 8) (if 0 ≤ 15 ∧ 15 < ((26 : Nat) : Int) then (if x3 < h (h 0 7 + 8) 15 then (l_B_neededPairs_21 d x1 x2 x3 0 h) else some ((.inl x2), h)) else none))) := (zgo_eq (zrn_ext d)).trans rfl
set_option maxRecDepth 100000 in
set_option maxHeartbeats 4000000 in
theorem el_B_neededPairs_21 (d : Nat) (x1 x2 x3 x4 : Int) (h : zH) : l_B_neededPairs_21 d x1 x2 x3 x4 h = (if x4 < x3 then (zpo (h 0 7) (zpo (h 0 7 + 20) (if 0 ≤ x3 ∧ x3 < ((9 : Nat) : Int) then (zpo (h 0 7) (zpo (h 0 7 + 20) (if 0 ≤ x4 ∧ x4 < ((9 : Nat) : Int) then (if x1 < w32 ((h (h 0 7 + 20) x3) + (h (h 0 7 + 20) x4)) then (zqi (m_B_oneIf d 1 h) fun a4 h3 => (l_B_neededPairs_21 d x1 (w32 (x2 + a4)) x3 (w32 (x4 + 1)) h3)) else (zqi (m_B_oneIf d 0 h) fun a2 h1 => (l_B_neededPairs_21 d x1 (w32 (x2 + a2)) x3 (w32 (x4 + 1)) h1))) else none))) else none))) else (l_B_neededPairs_4 d x1 x2 (w32 (x3 + 1)) h)) := (zgo_eq (zrn_ext d)).trans rfl
set_option maxRecDepth 100000 in
set_option maxHeartbeats 4000000 in
theorem em_B_image (d : Nat) (h : zH) : m_B_image (d + 1) h = (zlt (zset h 0 3 0) fun h1 => (l_B_image_7 d 0 h1)) := (zF_at zMT_191).trans ((zgo_eq (zrn_ext d)).trans rfl)
set_option maxRecDepth 100000 in
set_option maxHeartbeats 4000000 in
theorem el_B_image_7 (d : Nat) (x1 : Int) (h : zH) : l_B_image_7 d x1 h = (zpo (h 0 7) (zpo (h 0 7 + 8) (if 0 ≤ 7 ∧ 7 < ((26 : Nat) : Int) then (if x1 < h (h 0 7 + 8) 7 then (if 0 ≤ x1 ∧ x1 < ((10 : Nat) : Int) then (if h 68 x1 = (-1) then (zqv (m_B_putInPicture d 0 h) fun h2 => (l_B_image_7 d (w32 (x1 + 1)) h2)) else (if 0 ≤ x1 ∧ x1 < ((10 : Nat) : Int) then (zqv (m_B_putInPicture d (w32 ((h 68 x1) + 1)) h) fun h1 => (l_B_image_7 d (w32 (x1 + 1)) h1)) else none)) else none) else (l_B_image_61 d 0 h)) else none))) := (zgo_eq (zrn_ext d)).trans rfl
set_option maxRecDepth 100000 in
set_option maxHeartbeats 4000000 in
theorem el_B_image_61 (d : Nat) (x1 : Int) (h : zH) : l_B_image_61 d x1 h = (zpo (h 0 7) (zpo (h 0 7 + 8) (if 0 ≤ 10 ∧ 10 < ((26 : Nat) : Int) then (if x1 < h (h 0 7 + 8) 10 then (zqi (m_State_isRuin d 67 x1 h) fun a2 h1 => (zqi (m_B_oneIf d a2 h1) fun a4 h3 => (zqv (m_B_putInPicture d a4 h3) fun h5 => (l_B_image_61 d (w32 (x1 + 1)) h5)))) else (l_B_image_98 d 0 h)) else none))) := (zgo_eq (zrn_ext d)).trans rfl
set_option maxRecDepth 100000 in
set_option maxHeartbeats 4000000 in
theorem el_B_image_98 (d : Nat) (x1 : Int) (h : zH) : l_B_image_98 d x1 h = (zpo (h 0 7) (zqi (m_Slope_cells d (h 0 7) h) fun a2 h1 => (if x1 < a2 then (if 0 ≤ x1 ∧ x1 < ((60 : Nat) : Int) then (zqv (m_B_putInPicture d (zshr (h1 72 x1) 8) h1) fun h6 => (if 0 ≤ x1 ∧ x1 < ((60 : Nat) : Int) then (zqv (m_B_putInPicture d (zand (h6 72 x1) 255) h6) fun h7 => (if 0 ≤ x1 ∧ x1 < ((60 : Nat) : Int) then (zqv (m_B_putInPicture d (h7 73 x1) h7) fun h8 => (zqi (m_State_hasNet d 67 x1 h8) fun a10 h9 => (zqi (m_B_oneIf d a10 h9) fun a12 h11 => (zqv (m_B_putInPicture d a12 h11) fun h13 => (l_B_image_98 d (w32 (x1 + 1)) h13))))) else none)) else none)) else none) else (zqi (m_B_checkOf d 259 2 (h1 0 3) h1) fun a4 h3 => (zqv (m_B_putInPicture d a4 h3) fun h5 => some ((.inl (h5 0 3)), h5)))))) := (zgo_eq (zrn_ext d)).trans rfl
set_option maxRecDepth 100000 in
set_option maxHeartbeats 4000000 in
theorem em_B_putInPicture (d : Nat) (x1 : Int) (h : zH) : m_B_putInPicture (d + 1) x1 h = (if h 0 3 < 259 then (if 0 ≤ h 0 3 ∧ h 0 3 < ((259 : Nat) : Int) then (zlt (zset h 2 (h 0 3) x1) fun h1 => (zlt (zset h1 0 3 (w32 ((h1 0 3) + 1))) fun h2 => some (.inl 0, h2))) else none) else some (.inl 0, h)) := (zF_at zMT_192).trans ((zgo_eq (zrn_ext d)).trans rfl)
set_option maxRecDepth 100000 in
set_option maxHeartbeats 4000000 in
theorem em_B_checkOf (d : Nat) (n0 : Nat) (x0 x1 : Int) (h : zH) : m_B_checkOf (d + 1) n0 x0 x1 h = (l_B_checkOf_5 d n0 x0 x1 83 0 h) := (zF_at zMT_193).trans ((zgo_eq (zrn_ext d)).trans rfl)
set_option maxRecDepth 100000 in
set_option maxHeartbeats 4000000 in
theorem el_B_checkOf_5 (d : Nat) (n0 : Nat) (x0 x1 x2 x3 : Int) (h : zH) : l_B_checkOf_5 d n0 x0 x1 x2 x3 h = (if x3 < x1 then (zpo x0 (if x3 < (((n0 : Nat)) : Int) then (zpo x0 (if 0 ≤ x3 ∧ x3 < ((n0 : Nat) : Int) then (l_B_checkOf_5 d n0 x0 x1 (Int.tmod (w32 ((w32 (3 * x2)) + (h x0 x3))) 253) (w32 (x3 + 1)) h) else none)) else some ((.inl x2), h))) else some ((.inl x2), h)) := (zgo_eq (zrn_ext d)).trans rfl
set_option maxRecDepth 100000 in
set_option maxHeartbeats 4000000 in
theorem em_B_octet (d : Nat) (x1 : Int) (h : zH) : m_B_octet (d + 1) x1 h = (zqi (m_B_within d x1 (h 0 3) h) fun a2 h1 => (if a2 = 0 then some ((.inl (-1)), h1) else (if 0 ≤ x1 ∧ x1 < ((259 : Nat) : Int) then some ((.inl (h1 2 x1)), h1) else none))) := (zF_at zMT_194).trans ((zgo_eq (zrn_ext d)).trans rfl)
set_option maxRecDepth 100000 in
set_option maxHeartbeats 4000000 in
theorem em_B_on (d : Nat) (h : zH) : m_B_on (d + 1) h = (zqi (m_B_isImage d h) fun a2 h1 => (zlt (zset h1 0 1 0) fun h3 => (if a2 = 0 then (zqi (m_B_refuse d 5 h3) fun a7 h6 => some ((.inl 0), h6)) else (zqv (m_State_copy d 67 75 h3) fun h4 => (zqv (m_B_forgetActs d h4) fun h5 => some ((.inl 1), h5)))))) := (zF_at zMT_195).trans ((zgo_eq (zrn_ext d)).trans rfl)
set_option maxRecDepth 100000 in
set_option maxHeartbeats 4000000 in
theorem em_B_isImage (d : Nat) (h : zH) : m_B_isImage (d + 1) h = (zpo (h 0 7) (zpo (h 0 7 + 8) (if 0 ≤ 7 ∧ 7 < ((26 : Nat) : Int) then (zpo (h 0 7) (zpo (h 0 7 + 8) (if 0 ≤ 10 ∧ 10 < ((26 : Nat) : Int) then (zpo (h 0 7) (zqi (m_Slope_cells d (h 0 7) h) fun a2 h1 => (if h1 0 1 = w32 ((w32 ((w32 ((h (h 0 7 + 8) 7) + (h (h 0 7 + 8) 10))) + (w32 (4 * a2)))) + 1) then (if 259 < w32 ((w32 ((w32 ((h (h 0 7 + 8) 7) + (h (h 0 7 + 8) 10))) + (w32 (4 * a2)))) + 1) then some ((.inl 0), h1) else (if 0 ≤ w32 ((w32 ((w32 ((w32 ((h (h 0 7 + 8) 7) + (h (h 0 7 + 8) 10))) + (w32 (4 * a2)))) + 1)) - 1) ∧ w32 ((w32 ((w32 ((w32 ((h (h 0 7 + 8) 7) + (h (h 0 7 + 8) 10))) + (w32 (4 * a2)))) + 1)) - 1) < ((1600 : Nat) : Int) then (zqi (m_B_checkOf d 1600 1 (w32 ((w32 ((w32 ((w32 ((h (h 0 7 + 8) 7) + (h (h 0 7 + 8) 10))) + (w32 (4 * a2)))) + 1)) - 1)) h1) fun a4 h3 => (if h1 1 (w32 ((w32 ((w32 ((w32 ((h (h 0 7 + 8) 7) + (h (h 0 7 + 8) 10))) + (w32 (4 * a2)))) + 1)) - 1)) = a4 then (zqv (m_State_begin d 75 (h3 0 7) h3) fun h5 => (l_B_isImage_90 d (h (h 0 7 + 8) 7) (h (h 0 7 + 8) 10) 0 h5)) else some ((.inl 0), h3))) else none)) else some ((.inl 0), h1)))) else none))) else none))) := (zF_at zMT_196).trans ((zgo_eq (zrn_ext d)).trans rfl)
set_option maxRecDepth 100000 in
set_option maxHeartbeats 4000000 in
theorem el_B_isImage_90 (d : Nat) (x1 x2 x4 : Int) (h : zH) : l_B_isImage_90 d x1 x2 x4 h = (if x4 < x1 then (zqv (m_State_move d 75 x4 (-1) h) fun h7 => (l_B_isImage_90 d x1 x2 (w32 (x4 + 1)) h7)) else (zqi (m_B_readCells d (w32 (x1 + x2)) h) fun a2 h1 => (if a2 = 0 then some ((.inl 0), h1) else (zqi (m_B_readHouses d x1 h1) fun a4 h3 => (if a4 = 0 then some ((.inl 0), h3) else (zqi (m_B_readStones d h3) fun a6 h5 => (if a6 = 0 then some ((.inl 0), h5) else some ((.inl 1), h5)))))))) := (zgo_eq (zrn_ext d)).trans rfl
set_option maxRecDepth 100000 in
set_option maxHeartbeats 4000000 in
theorem em_B_readCells (d : Nat) (x1 : Int) (h : zH) : m_B_readCells (d + 1) x1 h = (l_B_readCells_2 d x1 0 h) := (zF_at zMT_197).trans ((zgo_eq (zrn_ext d)).trans rfl)
set_option maxRecDepth 100000 in
set_option maxHeartbeats 4000000 in
theorem el_B_readCells_2 (d : Nat) (x1 x2 : Int) (h : zH) : l_B_readCells_2 d x1 x2 h = (zpo (h 0 7) (zqi (m_Slope_cells d (h 0 7) h) fun a2 h1 => (if x2 < a2 then (if 0 ≤ w32 (x1 + (w32 (4 * x2))) ∧ w32 (x1 + (w32 (4 * x2))) < ((1600 : Nat) : Int) then (if 0 ≤ w32 ((w32 (x1 + (w32 (4 * x2)))) + 1) ∧ w32 ((w32 (x1 + (w32 (4 * x2)))) + 1) < ((1600 : Nat) : Int) then (if 9999 < zor (zshl (h1 1 (w32 (x1 + (w32 (4 * x2))))) 8) (h1 1 (w32 ((w32 (x1 + (w32 (4 * x2)))) + 1))) then some ((.inl 0), h1) else (if 0 ≤ w32 ((w32 (x1 + (w32 (4 * x2)))) + 2) ∧ w32 ((w32 (x1 + (w32 (4 * x2)))) + 2) < ((1600 : Nat) : Int) then (if 99 < h1 1 (w32 ((w32 (x1 + (w32 (4 * x2)))) + 2)) then some ((.inl 0), h1) else (if 0 ≤ w32 ((w32 (x1 + (w32 (4 * x2)))) + 3) ∧ w32 ((w32 (x1 + (w32 (4 * x2)))) + 3) < ((1600 : Nat) : Int) then (if 1 < h1 1 (w32 ((w32 (x1 + (w32 (4 * x2)))) + 3)) then some ((.inl 0), h1) else (if 0 ≤ x2 ∧ x2 < ((60 : Nat) : Int) then (zlt (zset h1 80 x2 (zor (zshl (h1 1 (w32 (x1 + (w32 (4 * x2))))) 8) (h1 1 (w32 ((w32 (x1 + (w32 (4 * x2)))) + 1))))) fun h3 => (if 0 ≤ w32 ((w32 (x1 + (w32 (4 * x2)))) + 2) ∧ w32 ((w32 (x1 + (w32 (4 * x2)))) + 2) < ((1600 : Nat) : Int) then (if 0 ≤ x2 ∧ x2 < ((60 : Nat) : Int) then (zlt (zset h3 81 x2 (h3 1 (w32 ((w32 (x1 + (w32 (4 * x2)))) + 2)))) fun h4 => (if 0 ≤ w32 ((w32 (x1 + (w32 (4 * x2)))) + 3) ∧ w32 ((w32 (x1 + (w32 (4 * x2)))) + 3) < ((1600 : Nat) : Int) then (zlt (zset h4 75 7 (zlor (h4 75 7) (zlshl (h4 1 (w32 ((w32 (x1 + (w32 (4 * x2)))) + 3))) x2))) fun h5 => (l_B_readCells_2 d x1 (w32 (x2 + 1)) h5)) else none)) else none) else none)) else none)) else none)) else none)) else none) else none) else some ((.inl 1), h1)))) := (zgo_eq (zrn_ext d)).trans rfl
set_option maxRecDepth 100000 in
set_option maxHeartbeats 4000000 in
theorem em_B_readHouses (d : Nat) (x1 : Int) (h : zH) : m_B_readHouses (d + 1) x1 h = (l_B_readHouses_2 d x1 0 h) := (zF_at zMT_198).trans ((zgo_eq (zrn_ext d)).trans rfl)
set_option maxRecDepth 100000 in
set_option maxHeartbeats 4000000 in
theorem el_B_readHouses_2 (d : Nat) (x1 x2 : Int) (h : zH) : l_B_readHouses_2 d x1 x2 h = (zpo (h 0 7) (zpo (h 0 7 + 8) (if 0 ≤ 10 ∧ 10 < ((26 : Nat) : Int) then (if x2 < h (h 0 7 + 8) 10 then (if 0 ≤ w32 (x1 + x2) ∧ w32 (x1 + x2) < ((1600 : Nat) : Int) then (if 1 < h 1 (w32 (x1 + x2)) then some ((.inl 0), h) else (if h 1 (w32 (x1 + x2)) = 0 then (zpo (h 0 7) (zpo (h 0 7 + 17) (if 0 ≤ x2 ∧ x2 < ((8 : Nat) : Int) then (if 0 ≤ h (h 0 7 + 17) x2 ∧ h (h 0 7 + 17) x2 < ((60 : Nat) : Int) then (if 0 < h 80 (h (h 0 7 + 17) x2) then some ((.inl 0), h) else (l_B_readHouses_56 d x1 x2 (h 1 (w32 (x1 + x2))) h)) else none) else none))) else (l_B_readHouses_56 d x1 x2 (h 1 (w32 (x1 + x2))) h))) else none) else some ((.inl 1), h)) else none))) := (zgo_eq (zrn_ext d)).trans rfl
set_option maxRecDepth 100000 in
set_option maxHeartbeats 4000000 in
theorem el_B_readHouses_56 (d : Nat) (x1 x2 x3 : Int) (h : zH) : l_B_readHouses_56 d x1 x2 x3 h = (zlt (zset h 75 8 (zor (h 75 8) (zshl x3 x2))) fun h1 => (l_B_readHouses_2 d x1 (w32 (x2 + 1)) h1)) := (zgo_eq (zrn_ext d)).trans rfl
set_option maxRecDepth 100000 in
set_option maxHeartbeats 4000000 in
theorem em_B_readStones (d : Nat) (h : zH) : m_B_readStones (d + 1) h = (l_B_readStones_2 d 0 h) := (zF_at zMT_199).trans ((zgo_eq (zrn_ext d)).trans rfl)
set_option maxRecDepth 100000 in
set_option maxHeartbeats 4000000 in
theorem el_B_readStones_2 (d : Nat) (x1 : Int) (h : zH) : l_B_readStones_2 d x1 h = (zpo (h 0 7) (zpo (h 0 7 + 8) (if 0 ≤ 7 ∧ 7 < ((26 : Nat) : Int) then (if x1 < h (h 0 7 + 8) 7 then (if 0 ≤ x1 ∧ x1 < ((1600 : Nat) : Int) then (if 0 < h 1 x1 then (zpo (h 0 7) (zqi (m_Slope_hasCell d (h 0 7) (w32 ((h 1 x1) - 1)) h) fun a2 h1 => (if a2 = 0 then some ((.inl 0), h1) else (zqi (m_State_isBarred d 75 (h1 0 7) (w32 ((h 1 x1) - 1)) h1) fun a4 h3 => (if a4 = 0 then (zqv (m_State_move d 75 x1 (w32 ((h 1 x1) - 1)) h3) fun h5 => (l_B_readStones_2 d (w32 (x1 + 1)) h5)) else some ((.inl 0), h3)))))) else (l_B_readStones_2 d (w32 (x1 + 1)) h)) else none) else some ((.inl 1), h)) else none))) := (zgo_eq (zrn_ext d)).trans rfl
set_option maxRecDepth 100000 in
set_option maxHeartbeats 4000000 in
theorem em_B_status (d : Nat) (x1 : Int) (h : zH) : m_B_status (d + 1) x1 h = (zqi (m_B_within d x1 6 h) fun a2 h1 => (if a2 = 0 then some ((.inl (-1)), h1) else (if 0 ≤ x1 ∧ x1 < ((6 : Nat) : Int) then some ((.inl (h1 3 x1)), h1) else none))) := (zF_at zMT_200).trans ((zgo_eq (zrn_ext d)).trans rfl)
