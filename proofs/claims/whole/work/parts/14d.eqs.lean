set_option maxRecDepth 100000 in
set_option maxHeartbeats 4000000 in
theorem em_R_is (d : Nat) (x0 x1 x2 : Int) (h : zH) : m_R_is (d + 1) x0 x1 x2 h = (if x0 < x1 then some ((.inl 0), h) else (if x2 < x0 then some ((.inl 0), h) else some ((.inl 1), h))) := (zF_at zMT_202).trans ((zgo_eq (zrn_ext d)).trans rfl)
set_option maxRecDepth 100000 in
set_option maxHeartbeats 4000000 in
theorem em_R_put (d : Nat) (x1 : Int) (h : zH) : m_R_put (d + 1) x1 h = (l_R_put_3 d x1 24 h) := (zF_at zMT_203).trans ((zgo_eq (zrn_ext d)).trans rfl)
set_option maxRecDepth 100000 in
set_option maxHeartbeats 4000000 in
theorem el_R_put_3 (d : Nat) (x1 x2 : Int) (h : zH) : l_R_put_3 d x1 x2 h = (if x2 < 0 then some (.inl 0, h) else (if 0 ≤ h 403 1 ∧ h 403 1 < ((1800 : Nat) : Int) then (zlt (zset h 404 (h 403 1) (zand (zshr x1 x2) 255)) fun h1 => (zlt (zset h1 403 1 (w32 ((h1 403 1) + 1))) fun h2 => (l_R_put_3 d x1 (w32 (x2 + (-8))) h2))) else none)) := (zgo_eq (zrn_ext d)).trans rfl
set_option maxRecDepth 100000 in
set_option maxHeartbeats 4000000 in
theorem em_R_feed (d : Nat) (x1 x2 x3 x4 x5 : Int) (h : zH) : m_R_feed (d + 1) x1 x2 x3 x4 x5 h = (if 1600 < w32 ((h 403 1) + 20) then (zqi (m_R_refuses d 0 h) fun a7 h6 => some ((.inl a7), h6)) else (zqv (m_R_put d x1 h) fun h1 => (zqv (m_R_put d x2 h1) fun h2 => (zqv (m_R_put d x3 h2) fun h3 => (zqv (m_R_put d x4 h3) fun h4 => (zqv (m_R_put d x5 h4) fun h5 => some ((.inl (h5 403 1)), h5))))))) := (zF_at zMT_204).trans ((zgo_eq (zrn_ext d)).trans rfl)
set_option maxRecDepth 100000 in
set_option maxHeartbeats 4000000 in
theorem em_R_end (d : Nat) (x1 : Int) (h : zH) : m_R_end (d + 1) x1 h = (if x1 < 0 then (l_R_end_12 d h) else (if h 403 1 < x1 then (l_R_end_12 d h) else (zlt (zset h 403 1 x1) fun h1 => some ((.inl 1), h1)))) := (zF_at zMT_205).trans ((zgo_eq (zrn_ext d)).trans rfl)
set_option maxRecDepth 100000 in
set_option maxHeartbeats 4000000 in
theorem el_R_end_12 (d : Nat) (h : zH) : l_R_end_12 d h = (zqi (m_R_refuses d 0 h) fun a2 h1 => (if a2 < 0 then some ((.inl 0), h1) else some ((.inl 1), h1))) := (zgo_eq (zrn_ext d)).trans rfl
set_option maxRecDepth 100000 in
set_option maxHeartbeats 4000000 in
theorem em_R_blame (d : Nat) (x1 x2 : Int) (h : zH) : m_R_blame (d + 1) x1 x2 h = (if 0 < h 403 8 then some (.inl 0, h) else (zlt (zset h 403 8 x1) fun h1 => (zlt (zset h1 403 9 x2) fun h2 => some (.inl 0, h2)))) := (zF_at zMT_206).trans ((zgo_eq (zrn_ext d)).trans rfl)
set_option maxRecDepth 100000 in
set_option maxHeartbeats 4000000 in
theorem em_R_isLetter (d : Nat) (x0 : Int) (h : zH) : m_R_isLetter (d + 1) x0 h = (if x0 < 97 then some ((.inl 0), h) else (if 122 < x0 then some ((.inl 0), h) else some ((.inl 1), h))) := (zF_at zMT_207).trans ((zgo_eq (zrn_ext d)).trans rfl)
set_option maxRecDepth 100000 in
set_option maxHeartbeats 4000000 in
theorem em_R_isDigit (d : Nat) (x0 : Int) (h : zH) : m_R_isDigit (d + 1) x0 h = (if x0 < 48 then some ((.inl 0), h) else (if 57 < x0 then some ((.inl 0), h) else some ((.inl 1), h))) := (zF_at zMT_208).trans ((zgo_eq (zrn_ext d)).trans rfl)
set_option maxRecDepth 100000 in
set_option maxHeartbeats 4000000 in
theorem em_R_ahead (d : Nat) (h : zH) : m_R_ahead (d + 1) h = (l_R_ahead_5 d (h 403 5) h) := (zF_at zMT_209).trans ((zgo_eq (zrn_ext d)).trans rfl)
set_option maxRecDepth 100000 in
set_option maxHeartbeats 4000000 in
theorem el_R_ahead_5 (d : Nat) (x1 : Int) (h : zH) : l_R_ahead_5 d x1 h = (if x1 < h 403 2 then (if 0 ≤ x1 ∧ x1 < ((1800 : Nat) : Int) then (if h 404 x1 = 32 then (l_R_ahead_5 d (w32 (x1 + 1)) h) else (if 0 ≤ x1 ∧ x1 < ((1800 : Nat) : Int) then (if h 404 x1 = 10 then (l_R_ahead_5 d (w32 (x1 + 1)) h) else (l_R_ahead_41 d x1 h)) else none)) else none) else (l_R_ahead_41 d x1 h)) := (zgo_eq (zrn_ext d)).trans rfl
set_option maxRecDepth 100000 in
set_option maxHeartbeats 4000000 in
theorem el_R_ahead_41 (d : Nat) (x1 : Int) (h : zH) : l_R_ahead_41 d x1 h = (zlt (zset h 403 4 x1) fun h1 => (zlt (zset h1 403 5 x1) fun h2 => (zlt (zset h2 403 3 0) fun h3 => (if x1 < h3 403 2 then (if 0 ≤ x1 ∧ x1 < ((1800 : Nat) : Int) then (zqi (m_R_isLetter d (h3 404 x1) h3) fun a5 h4 => (if 0 ≤ x1 ∧ x1 < ((1800 : Nat) : Int) then (zqi (m_R_isDigit d (h4 404 x1) h4) fun a7 h6 => (if a5 = 0 then (if a7 = 0 then (l_R_ahead_131 d x1 a5 a7 h6) else (l_R_ahead_93 d x1 a5 a7 h6)) else (l_R_ahead_93 d x1 a5 a7 h6))) else none)) else none) else some (.inl 0, h3))))) := (zgo_eq (zrn_ext d)).trans rfl
set_option maxRecDepth 100000 in
set_option maxHeartbeats 4000000 in
theorem el_R_ahead_93 (d : Nat) (x1 x2 x3 : Int) (h : zH) : l_R_ahead_93 d x1 x2 x3 h = (if 0 < x1 then (if 0 ≤ w32 (x1 - 1) ∧ w32 (x1 - 1) < ((1800 : Nat) : Int) then (zqi (m_R_isLetter d (h 404 (w32 (x1 - 1))) h) fun a2 h1 => (if a2 = 0 then (if 0 ≤ w32 (x1 - 1) ∧ w32 (x1 - 1) < ((1800 : Nat) : Int) then (zqi (m_R_isDigit d (h1 404 (w32 (x1 - 1))) h1) fun a5 h4 => (if a5 = 0 then (l_R_ahead_131 d x1 x2 x3 h4) else (zqv (m_R_blame d 1 x1 h4) fun h6 => (l_R_ahead_131 d x1 x2 x3 h6)))) else none) else (zqv (m_R_blame d 1 x1 h1) fun h3 => (l_R_ahead_131 d x1 x2 x3 h3)))) else none) else (l_R_ahead_131 d x1 x2 x3 h)) := (zgo_eq (zrn_ext d)).trans rfl
set_option maxRecDepth 100000 in
set_option maxHeartbeats 4000000 in
theorem el_R_ahead_131 (d : Nat) (x1 x2 x3 : Int) (h : zH) : l_R_ahead_131 d x1 x2 x3 h = (zlt (zset h 403 6 0) fun h1 => (zlt (zset h1 403 7 0) fun h2 => (zlt (zset h2 403 3 3) fun h3 => (zlt (zset h3 403 5 (w32 (x1 + 1))) fun h4 => (if x2 = 0 then (if x3 = 0 then (if 0 ≤ x1 ∧ x1 < ((1800 : Nat) : Int) then (zlt (zset h4 403 6 (h4 404 x1)) fun h5 => some (.inl 0, h5)) else none) else (if x2 = 0 then (l_R_ahead_182 d x1 x2 x3 2 h4) else (l_R_ahead_182 d x1 x2 x3 1 h4))) else (if x2 = 0 then (l_R_ahead_182 d x1 x2 x3 2 h4) else (l_R_ahead_182 d x1 x2 x3 1 h4))))))) := (zgo_eq (zrn_ext d)).trans rfl
set_option maxRecDepth 100000 in
set_option maxHeartbeats 4000000 in
theorem el_R_ahead_182 (d : Nat) (x1 x2 x3 s0 : Int) (h : zH) : l_R_ahead_182 d x1 x2 x3 s0 h = (zlt (zset h 403 3 s0) fun h1 => (if x2 = 0 then (l_R_ahead_200 d x1 x2 x3 4 0 h1) else (l_R_ahead_200 d x1 x2 x3 6 0 h1))) := (zgo_eq (zrn_ext d)).trans rfl
set_option maxRecDepth 100000 in
set_option maxHeartbeats 4000000 in
theorem el_R_ahead_200 (d : Nat) (x1 x2 x3 x4 x5 : Int) (h : zH) : l_R_ahead_200 d x1 x2 x3 x4 x5 h = (if x1 < h 403 2 then (if x2 = 0 then (if 0 ≤ x1 ∧ x1 < ((1800 : Nat) : Int) then (zqi (m_R_isDigit d (h 404 x1) h) fun a3 h2 => (if a3 = 0 then (zlt (zset h2 403 5 x1) fun h4 => some (.inl 0, h4)) else (l_R_ahead_239 d x1 x2 x3 x4 x5 h2))) else none) else (if 0 ≤ x1 ∧ x1 < ((1800 : Nat) : Int) then (zqi (m_R_isLetter d (h 404 x1) h) fun a6 h5 => (if a6 = 0 then (zlt (zset h5 403 5 x1) fun h7 => some (.inl 0, h7)) else (l_R_ahead_239 d x1 x2 x3 x4 x5 h5))) else none)) else (zlt (zset h 403 5 x1) fun h1 => some (.inl 0, h1))) := (zgo_eq (zrn_ext d)).trans rfl
set_option maxRecDepth 100000 in
set_option maxHeartbeats 4000000 in
theorem el_R_ahead_239 (d : Nat) (x1 x2 x3 x4 x5 : Int) (h : zH) : l_R_ahead_239 d x1 x2 x3 x4 x5 h = (if x5 = x4 then (zqv (m_R_blame d 1 x1 h) fun h1 => (l_R_ahead_252 d x1 x2 x3 x4 x5 h1)) else (l_R_ahead_252 d x1 x2 x3 x4 x5 h)) := (zgo_eq (zrn_ext d)).trans rfl
set_option maxRecDepth 100000 in
set_option maxHeartbeats 4000000 in
theorem el_R_ahead_252 (d : Nat) (x1 x2 x3 x4 x5 : Int) (h : zH) : l_R_ahead_252 d x1 x2 x3 x4 x5 h = (if x5 < x4 then (if x2 = 0 then (l_R_ahead_282 d x1 x2 x3 x4 x5 h) else (if 0 ≤ x1 ∧ x1 < ((1800 : Nat) : Int) then (zlt (zset h 403 7 (zlor (zlshl (h 403 7) 8) (h 404 x1))) fun h1 => (l_R_ahead_282 d x1 x2 x3 x4 x5 h1)) else none)) else (l_R_ahead_282 d x1 x2 x3 x4 x5 h)) := (zgo_eq (zrn_ext d)).trans rfl
set_option maxRecDepth 100000 in
set_option maxHeartbeats 4000000 in
theorem el_R_ahead_282 (d : Nat) (x1 x2 x3 x4 x5 : Int) (h : zH) : l_R_ahead_282 d x1 x2 x3 x4 x5 h = (if x5 < x4 then (if x3 = 0 then (l_R_ahead_200 d (w32 (x1 + 1)) x2 x3 x4 (w32 (x5 + 1)) h) else (if 0 ≤ x1 ∧ x1 < ((1800 : Nat) : Int) then (zlt (zset h 403 6 (w32 ((w32 ((w32 (10 * (h 403 6))) + (h 404 x1))) - 48))) fun h1 => (l_R_ahead_200 d (w32 (x1 + 1)) x2 x3 x4 (w32 (x5 + 1)) h1)) else none)) else (l_R_ahead_200 d (w32 (x1 + 1)) x2 x3 x4 (w32 (x5 + 1)) h)) := (zgo_eq (zrn_ext d)).trans rfl
set_option maxRecDepth 100000 in
set_option maxHeartbeats 4000000 in
theorem em_R_isSign (d : Nat) (x1 : Int) (h : zH) : m_R_isSign (d + 1) x1 h = (if h 403 3 = 3 then (if h 403 6 = x1 then some ((.inl 1), h) else some ((.inl 0), h)) else some ((.inl 0), h)) := (zF_at zMT_210).trans ((zgo_eq (zrn_ext d)).trans rfl)
set_option maxRecDepth 100000 in
set_option maxHeartbeats 4000000 in
theorem em_R_isWord (d : Nat) (x1 : Int) (h : zH) : m_R_isWord (d + 1) x1 h = (if h 403 3 = 1 then (if zlc (h 403 7) x1 = 0 then some ((.inl 1), h) else some ((.inl 0), h)) else some ((.inl 0), h)) := (zF_at zMT_211).trans ((zgo_eq (zrn_ext d)).trans rfl)
set_option maxRecDepth 100000 in
set_option maxHeartbeats 4000000 in
theorem em_R_must (d : Nat) (x1 : Int) (h : zH) : m_R_must (d + 1) x1 h = (zqi (m_R_isSign d x1 h) fun a2 h1 => (if a2 = 0 then (zqv (m_R_blame d 1 (h1 403 4) h1) fun h3 => (l_R_must_17 d h3)) else (l_R_must_17 d h1))) := (zF_at zMT_212).trans ((zgo_eq (zrn_ext d)).trans rfl)
set_option maxRecDepth 100000 in
set_option maxHeartbeats 4000000 in
theorem el_R_must_17 (d : Nat) (h : zH) : l_R_must_17 d h = (if h 403 8 = 0 then (zqv (m_R_ahead d h) fun h1 => some (.inl 0, h1)) else some (.inl 0, h)) := (zgo_eq (zrn_ext d)).trans rfl
set_option maxRecDepth 100000 in
set_option maxHeartbeats 4000000 in
theorem em_R_isOwn (d : Nat) (x1 : Int) (h : zH) : m_R_isOwn (d + 1) x1 h = (if zlc x1 439854918756 = 0 then some ((.inl 1), h) else (if zlc x1 7499639 = 0 then some ((.inl 1), h) else (if zlc x1 491496236904 = 0 then some ((.inl 1), h) else (if zlc x1 24948 = 0 then some ((.inl 1), h) else (if zlc x1 478745093490 = 0 then some ((.inl 1), h) else (if zlc x1 1818324580 = 0 then some ((.inl 1), h) else (if zlc x1 29807 = 0 then some ((.inl 1), h) else (if zlc x1 495874698853 = 0 then some ((.inl 1), h) else (if zlc x1 131277443786868 = 0 then some ((.inl 1), h) else (if zlc x1 1919251316 = 0 then some ((.inl 1), h) else (if zlc x1 448546567013 = 0 then some ((.inl 1), h) else (if zlc x1 512970880104 = 0 then some ((.inl 1), h) else (if zlc x1 2002873452 = 0 then some ((.inl 1), h) else (if zlc x1 1952997751 = 0 then some ((.inl 1), h) else (if zlc x1 1868850291 = 0 then some ((.inl 1), h) else (if zlc x1 1919905893 = 0 then some ((.inl 1), h) else (if zlc x1 6583653 = 0 then some ((.inl 1), h) else (if zlc x1 2003330414 = 0 then some ((.inl 1), h) else (if zlc x1 28530 = 0 then some ((.inl 1), h) else (if zlc x1 6385252 = 0 then some ((.inl 1), h) else (if zlc x1 7237492 = 0 then some ((.inl 1), h) else (if zlc x1 6384748 = 0 then some ((.inl 1), h) else (if zlc x1 495806932324 = 0 then some ((.inl 1), h) else (if zlc x1 495874044019 = 0 then some ((.inl 1), h) else (if zlc x1 7170414 = 0 then some ((.inl 1), h) else (if zlc x1 7168376 = 0 then some ((.inl 1), h) else some ((.inl 0), h))))))))))))))))))))))))))) := (zF_at zMT_213).trans ((zgo_eq (zrn_ext d)).trans rfl)
set_option maxRecDepth 100000 in
set_option maxHeartbeats 4000000 in
theorem em_R_manyOf (d : Nat) (x1 x2 : Int) (h : zH) : m_R_manyOf (d + 1) x1 x2 h = (if x2 = 0 then (if 0 ≤ x1 ∧ x1 < ((2 : Nat) : Int) then some ((.inl (h 413 x1)), h) else none) else (if x2 = 1 then (if 0 ≤ x1 ∧ x1 < ((2 : Nat) : Int) then some ((.inl (h 415 x1)), h) else none) else (if 0 ≤ x1 ∧ x1 < ((2 : Nat) : Int) then some ((.inl (h 420 x1)), h) else none))) := (zF_at zMT_214).trans ((zgo_eq (zrn_ext d)).trans rfl)
set_option maxRecDepth 100000 in
set_option maxHeartbeats 4000000 in
theorem em_R_nameOf (d : Nat) (x1 x2 x3 : Int) (h : zH) : m_R_nameOf (d + 1) x1 x2 x3 h = (if x2 = 0 then (if 0 ≤ w32 ((w32 (6 * x1)) + x3) ∧ w32 ((w32 (6 * x1)) + x3) < ((12 : Nat) : Int) then some ((.inr (.inl (h 414 (w32 ((w32 (6 * x1)) + x3))))), h) else none) else (if x2 = 1 then (if 0 ≤ w32 ((w32 (10 * x1)) + x3) ∧ w32 ((w32 (10 * x1)) + x3) < ((20 : Nat) : Int) then some ((.inr (.inl (h 416 (w32 ((w32 (10 * x1)) + x3))))), h) else none) else (if 0 ≤ w32 ((w32 (8 * x1)) + x3) ∧ w32 ((w32 (8 * x1)) + x3) < ((16 : Nat) : Int) then some ((.inr (.inl (h 421 (w32 ((w32 (8 * x1)) + x3))))), h) else none))) := (zF_at zMT_215).trans ((zgo_eq (zrn_ext d)).trans rfl)
set_option maxRecDepth 100000 in
set_option maxHeartbeats 4000000 in
theorem em_R_named (d : Nat) (x1 x2 : Int) (h : zH) : m_R_named (d + 1) x1 x2 h = (l_R_named_3 d x1 x2 0 h) := (zF_at zMT_216).trans ((zgo_eq (zrn_ext d)).trans rfl)
set_option maxRecDepth 100000 in
set_option maxHeartbeats 4000000 in
theorem el_R_named_3 (d : Nat) (x1 x2 x4 : Int) (h : zH) : l_R_named_3 d x1 x2 x4 h = (zqi (m_R_manyOf d (h 403 44) x1 h) fun a2 h1 => (if x4 < a2 then (zql (m_R_nameOf d (h1 403 44) x1 x4 h1) fun a4 h3 => (if zlc a4 x2 = 0 then some ((.inl x4), h3) else (l_R_named_3 d x1 x2 (w32 (x4 + 1)) h3))) else some ((.inl (-1)), h1))) := (zgo_eq (zrn_ext d)).trans rfl
set_option maxRecDepth 100000 in
set_option maxHeartbeats 4000000 in
theorem em_R_number (d : Nat) (x1 x2 : Int) (h : zH) : m_R_number (d + 1) x1 x2 h = (if 0 < h 403 8 then some ((.inl 0), h) else (if h 403 3 = 2 then (l_R_number_26 d x1 x2 h) else (zqv (m_R_blame d 1 (h 403 4) h) fun h1 => (l_R_number_26 d x1 x2 h1)))) := (zF_at zMT_217).trans ((zgo_eq (zrn_ext d)).trans rfl)
set_option maxRecDepth 100000 in
set_option maxHeartbeats 4000000 in
theorem el_R_number_26 (d : Nat) (x1 x2 : Int) (h : zH) : l_R_number_26 d x1 x2 h = (if h 403 8 = 0 then (zqi (m_R_is d (h 403 6) x1 x2 h) fun a2 h1 => (if a2 = 0 then (zqv (m_R_blame d 4 (h1 403 4) h1) fun h3 => (l_R_number_54 d h3)) else (l_R_number_54 d h1))) else (l_R_number_54 d h)) := (zgo_eq (zrn_ext d)).trans rfl
set_option maxRecDepth 100000 in
set_option maxHeartbeats 4000000 in
theorem el_R_number_54 (d : Nat) (h : zH) : l_R_number_54 d h = (if h 403 8 = 0 then (zqv (m_R_ahead d h) fun h1 => some ((.inl (h 403 6)), h1)) else some ((.inl (h 403 6)), h)) := (zgo_eq (zrn_ext d)).trans rfl
set_option maxRecDepth 100000 in
set_option maxHeartbeats 4000000 in
theorem em_R_add (d : Nat) (x1 x2 : Int) (h : zH) : m_R_add (d + 1) x1 x2 h = (if 0 ≤ w32 ((w32 (1600 * (h 403 44))) + (h 403 43)) ∧ w32 ((w32 (1600 * (h 403 44))) + (h 403 43)) < ((3200 : Nat) : Int) then (zlt (zset h 433 (w32 ((w32 (1600 * (h 403 44))) + (h 403 43))) x1) fun h1 => (if 0 ≤ w32 ((w32 (1600 * (h1 403 44))) + (h1 403 43)) ∧ w32 ((w32 (1600 * (h1 403 44))) + (h1 403 43)) < ((3200 : Nat) : Int) then (zlt (zset h1 434 (w32 ((w32 (1600 * (h1 403 44))) + (h1 403 43))) x2) fun h2 => (zlt (zset h2 403 43 (w32 ((h2 403 43) + 1))) fun h3 => some (.inl 0, h3))) else none)) else none) := (zF_at zMT_218).trans ((zgo_eq (zrn_ext d)).trans rfl)
set_option maxRecDepth 100000 in
set_option maxHeartbeats 4000000 in
theorem em_R_rank (d : Nat) (x0 : Int) (h : zH) : m_R_rank (d + 1) x0 h = (if x0 = 21 then some ((.inl 1), h) else (if x0 = 20 then some ((.inl 2), h) else (if x0 = 22 then some ((.inl 3), h) else (if x0 = 17 then some ((.inl 4), h) else (if x0 = 18 then some ((.inl 4), h) else (if x0 = 19 then some ((.inl 4), h) else (if x0 = 10 then some ((.inl 5), h) else (if x0 = 11 then some ((.inl 5), h) else some ((.inl 6), h))))))))) := (zF_at zMT_219).trans ((zgo_eq (zrn_ext d)).trans rfl)
theorem em_R_joins (d : Nat) (x1 : Int) (h : zH) : m_R_joins (d + 1) x1 h = l_R_joins_0 d x1 h := (zF_at zMT_220).trans rfl
set_option maxRecDepth 100000 in
set_option maxHeartbeats 4000000 in
theorem el_R_joins_0 (d : Nat) (x1 : Int) (h : zH) : l_R_joins_0 d x1 h = (if 0 ≤ w32 ((h 403 50) - 1) ∧ w32 ((h 403 50) - 1) < ((20 : Nat) : Int) then (if h 439 (w32 ((h 403 50) - 1)) < h 403 53 then (if 0 ≤ w32 ((h 403 53) - 1) ∧ w32 ((h 403 53) - 1) < ((500 : Nat) : Int) then (zqi (m_R_rank d (h 440 (w32 ((h 403 53) - 1))) h) fun a2 h1 => (if a2 < x1 then some (.inl 0, h1) else (zlt (zset h1 403 53 (w32 ((h1 403 53) - 1))) fun h3 => (if 0 ≤ h3 403 53 ∧ h3 403 53 < ((500 : Nat) : Int) then (zqv (m_R_add d (h3 440 (h3 403 53)) 0 h3) fun h4 => (l_R_joins_0 d x1 h4)) else none)))) else none) else some (.inl 0, h)) else none) := (zgo_eq (zrn_ext d)).trans rfl
set_option maxRecDepth 100000 in
set_option maxHeartbeats 4000000 in
theorem em_R_holdsBack (d : Nat) (x1 : Int) (h : zH) : m_R_holdsBack (d + 1) x1 h = (if 0 ≤ h 403 53 ∧ h 403 53 < ((500 : Nat) : Int) then (zlt (zset h 440 (h 403 53) x1) fun h1 => (zlt (zset h1 403 53 (w32 ((h1 403 53) + 1))) fun h2 => some (.inl 0, h2))) else none) := (zF_at zMT_221).trans ((zgo_eq (zrn_ext d)).trans rfl)
set_option maxRecDepth 100000 in
set_option maxHeartbeats 4000000 in
theorem em_R_pushes (d : Nat) (x1 : Int) (h : zH) : m_R_pushes (d + 1) x1 h = (if 0 ≤ h 403 50 ∧ h 403 50 < ((20 : Nat) : Int) then (zlt (zset h 435 (h 403 50) x1) fun h1 => (if 0 ≤ h1 403 50 ∧ h1 403 50 < ((20 : Nat) : Int) then (zlt (zset h1 436 (h1 403 50) 0) fun h2 => (if 0 ≤ h2 403 50 ∧ h2 403 50 < ((20 : Nat) : Int) then (zlt (zset h2 437 (h2 403 50) 1) fun h3 => (if 0 ≤ h3 403 50 ∧ h3 403 50 < ((20 : Nat) : Int) then (zlt (zset h3 439 (h3 403 50) (h3 403 53)) fun h4 => (zlt (zset h4 403 50 (w32 ((h4 403 50) + 1))) fun h5 => some (.inl 0, h5))) else none)) else none)) else none)) else none) := (zF_at zMT_222).trans ((zgo_eq (zrn_ext d)).trans rfl)
set_option maxRecDepth 100000 in
set_option maxHeartbeats 4000000 in
theorem em_R_opens (d : Nat) (x1 : Int) (h : zH) : m_R_opens (d + 1) x1 h = (if h 403 51 = 8 then (zqv (m_R_blame d 5 (h 403 4) h) fun h1 => (l_R_opens_18 d x1 h1)) else (l_R_opens_18 d x1 h)) := (zF_at zMT_223).trans ((zgo_eq (zrn_ext d)).trans rfl)
set_option maxRecDepth 100000 in
set_option maxHeartbeats 4000000 in
theorem el_R_opens_18 (d : Nat) (x1 : Int) (h : zH) : l_R_opens_18 d x1 h = (if 0 < h 403 8 then some (.inl 0, h) else (zlt (zset h 403 51 (w32 ((h 403 51) + 1))) fun h1 => (zqv (m_R_ahead d h1) fun h2 => (zqv (m_R_pushes d x1 h2) fun h3 => some (.inl 0, h3))))) := (zgo_eq (zrn_ext d)).trans rfl
set_option maxRecDepth 100000 in
set_option maxHeartbeats 4000000 in
theorem em_R_isTest (d : Nat) (x0 : Int) (h : zH) : m_R_isTest (d + 1) x0 h = (if x0 = 1 then some ((.inl 1), h) else (if x0 = 5 then some ((.inl 1), h) else some ((.inl 0), h))) := (zF_at zMT_224).trans ((zgo_eq (zrn_ext d)).trans rfl)
set_option maxRecDepth 100000 in
set_option maxHeartbeats 4000000 in
theorem em_R_operand (d : Nat) (h : zH) : m_R_operand (d + 1) h = (if 0 ≤ w32 ((h 403 50) - 1) ∧ w32 ((h 403 50) - 1) < ((20 : Nat) : Int) then (zqi (m_R_isTest d (h 435 (w32 ((h 403 50) - 1))) h) fun a2 h1 => (if a2 = 0 then (l_R_operand_33 d (w32 ((h 403 50) - 1)) 0 h1) else (if 0 ≤ w32 ((h 403 50) - 1) ∧ w32 ((h 403 50) - 1) < ((20 : Nat) : Int) then (if h1 437 (w32 ((h 403 50) - 1)) = 0 then (l_R_operand_33 d (w32 ((h 403 50) - 1)) 0 h1) else (l_R_operand_33 d (w32 ((h 403 50) - 1)) 1 h1)) else none))) else none) := (zF_at zMT_225).trans ((zgo_eq (zrn_ext d)).trans rfl)
set_option maxRecDepth 100000 in
set_option maxHeartbeats 4000000 in
theorem el_R_operand_33 (d : Nat) (x1 s0 : Int) (h : zH) : l_R_operand_33 d x1 s0 h = (if s0 = 0 then (l_R_operand_60 d x1 s0 h) else (zqi (m_R_isWord d 7237492 h) fun a2 h1 => (if a2 = 0 then (l_R_operand_60 d x1 s0 h1) else (zqv (m_R_holdsBack d 22 h1) fun h3 => (zqv (m_R_ahead d h3) fun h4 => some ((.inl 0), h4)))))) := (zgo_eq (zrn_ext d)).trans rfl
set_option maxRecDepth 100000 in
set_option maxHeartbeats 4000000 in
theorem el_R_operand_60 (d : Nat) (x1 x2 : Int) (h : zH) : l_R_operand_60 d x1 x2 h = (if 0 ≤ x1 ∧ x1 < ((20 : Nat) : Int) then (zlt (zset h 437 x1 0) fun h1 => (if x2 = 0 then (l_R_operand_87 d x1 x2 h1) else (zqi (m_R_isSign d 91 h1) fun a3 h2 => (if a3 = 0 then (l_R_operand_87 d x1 x2 h2) else (zqv (m_R_opens d 5 h2) fun h4 => some ((.inl 0), h4)))))) else none) := (zgo_eq (zrn_ext d)).trans rfl
set_option maxRecDepth 100000 in
set_option maxHeartbeats 4000000 in
theorem el_R_operand_87 (d : Nat) (x1 x2 : Int) (h : zH) : l_R_operand_87 d x1 x2 h = (if x2 = 0 then (l_R_operand_121 d h) else (zqi (m_R_isWord d 6384748 h) fun a2 h1 => (if a2 = 0 then (l_R_operand_121 d h1) else (zqv (m_R_add d 9 0 h1) fun h3 => (if 0 ≤ x1 ∧ x1 < ((20 : Nat) : Int) then (zlt (zset h3 436 x1 2) fun h4 => (zqv (m_R_ahead d h4) fun h5 => some ((.inl 1), h5))) else none))))) := (zgo_eq (zrn_ext d)).trans rfl
set_option maxRecDepth 100000 in
set_option maxHeartbeats 4000000 in
theorem el_R_operand_121 (d : Nat) (h : zH) : l_R_operand_121 d h = (zqi (m_R_isSign d 40 h) fun a2 h1 => (if a2 = 0 then (zqi (m_R_isWord d 7170414 h1) fun a4 h3 => (if a4 = 0 then (zqi (m_R_isWord d 7168376 h3) fun a6 h5 => (if a6 = 0 then (if h5 403 3 = 2 then (l_R_operand_306 d 0 h5) else (zqi (m_R_isWord d 131277443786868 h5) fun a8 h7 => (if a8 = 0 then (zqi (m_R_isWord d 495806932324 h7) fun a10 h9 => (if a10 = 0 then (zqi (m_R_isWord d 512970880104 h9) fun a12 h11 => (if a12 = 0 then (zqi (m_R_isWord d 2002873452 h11) fun a14 h13 => (if a14 = 0 then (zqi (m_R_isWord d 495874044019 h13) fun a16 h15 => (if a16 = 0 then (l_R_operand_306 d (-1) h15) else (l_R_operand_306 d 5 h15))) else (l_R_operand_306 d 4 h13))) else (l_R_operand_306 d 3 h11))) else (l_R_operand_306 d 2 h9))) else (l_R_operand_306 d 1 h7)))) else (l_R_operand_157 d h5))) else (l_R_operand_157 d h3))) else (zqv (m_R_opens d 2 h1) fun h17 => some ((.inl 0), h17)))) := (zgo_eq (zrn_ext d)).trans rfl
set_option maxRecDepth 100000 in
set_option maxHeartbeats 4000000 in
theorem el_R_operand_157 (d : Nat) (h : zH) : l_R_operand_157 d h = (zqi (m_R_isWord d 7170414 h) fun a2 h1 => (if a2 = 0 then (l_R_operand_174 d 16 h1) else (l_R_operand_174 d 15 h1))) := (zgo_eq (zrn_ext d)).trans rfl
set_option maxRecDepth 100000 in
set_option maxHeartbeats 4000000 in
theorem el_R_operand_174 (d : Nat) (s0 : Int) (h : zH) : l_R_operand_174 d s0 h = (zqv (m_R_ahead d h) fun h1 => (zqi (m_R_isSign d 40 h1) fun a3 h2 => (if a3 = 0 then (zqv (m_R_blame d 1 (h2 403 4) h2) fun h4 => (l_R_operand_197 d s0 h4)) else (l_R_operand_197 d s0 h2)))) := (zgo_eq (zrn_ext d)).trans rfl
set_option maxRecDepth 100000 in
set_option maxHeartbeats 4000000 in
theorem el_R_operand_197 (d : Nat) (x3 : Int) (h : zH) : l_R_operand_197 d x3 h = (zqv (m_R_opens d 3 h) fun h1 => (if h1 403 8 = 0 then (if 0 ≤ w32 ((h1 403 50) - 1) ∧ w32 ((h1 403 50) - 1) < ((20 : Nat) : Int) then (zlt (zset h1 438 (w32 ((h1 403 50) - 1)) x3) fun h2 => some ((.inl 0), h2)) else none) else some ((.inl 0), h1))) := (zgo_eq (zrn_ext d)).trans rfl
set_option maxRecDepth 100000 in
set_option maxHeartbeats 4000000 in
theorem el_R_operand_306 (d : Nat) (s0 : Int) (h : zH) : l_R_operand_306 d s0 h = (if s0 = (-1) then (zqv (m_R_blame d 1 (h 403 4) h) fun h1 => (l_R_operand_321 d s0 h1)) else (l_R_operand_321 d s0 h)) := (zgo_eq (zrn_ext d)).trans rfl
set_option maxRecDepth 100000 in
set_option maxHeartbeats 4000000 in
theorem el_R_operand_321 (d : Nat) (x3 : Int) (h : zH) : l_R_operand_321 d x3 h = (if 0 < h 403 8 then some ((.inl 1), h) else (zqv (m_R_add d x3 (h 403 6) h) fun h1 => (zqv (m_R_ahead d h1) fun h2 => some ((.inl 1), h2)))) := (zgo_eq (zrn_ext d)).trans rfl
set_option maxRecDepth 100000 in
set_option maxHeartbeats 4000000 in
theorem em_R_goesOn (d : Nat) (h : zH) : m_R_goesOn (d + 1) h = (if 0 ≤ w32 ((h 403 50) - 1) ∧ w32 ((h 403 50) - 1) < ((20 : Nat) : Int) then (zqi (m_R_isTest d (h 435 (w32 ((h 403 50) - 1))) h) fun a2 h1 => (if 0 ≤ w32 ((h 403 50) - 1) ∧ w32 ((h 403 50) - 1) < ((20 : Nat) : Int) then (if h1 436 (w32 ((h 403 50) - 1)) < 2 then (zqi (m_R_isSign d 43 h1) fun a4 h3 => (if a4 = 0 then (zqi (m_R_isSign d 45 h3) fun a6 h5 => (if a6 = 0 then (zqi (m_R_isSign d 42 h5) fun a8 h7 => (if a8 = 0 then (zqi (m_R_isSign d 47 h7) fun a10 h9 => (if a10 = 0 then (zqi (m_R_isSign d 37 h9) fun a12 h11 => (if a12 = 0 then (l_R_goesOn_175 d (w32 ((h 403 50) - 1)) (h 435 (w32 ((h 403 50) - 1))) a2 h11) else (l_R_goesOn_74 d h11))) else (l_R_goesOn_74 d h9))) else (l_R_goesOn_74 d h7))) else (l_R_goesOn_74 d h5))) else (l_R_goesOn_74 d h3))) else (l_R_goesOn_175 d (w32 ((h 403 50) - 1)) (h 435 (w32 ((h 403 50) - 1))) a2 h1)) else none)) else none) := (zF_at zMT_226).trans ((zgo_eq (zrn_ext d)).trans rfl)
set_option maxRecDepth 100000 in
set_option maxHeartbeats 4000000 in
theorem el_R_goesOn_74 (d : Nat) (h : zH) : l_R_goesOn_74 d h = (zqi (m_R_isSign d 43 h) fun a2 h1 => (if a2 = 0 then (zqi (m_R_isSign d 45 h1) fun a4 h3 => (if a4 = 0 then (l_R_goesOn_99 d 6 h3) else (l_R_goesOn_99 d 5 h3))) else (l_R_goesOn_99 d 5 h1))) := (zgo_eq (zrn_ext d)).trans rfl
set_option maxRecDepth 100000 in
set_option maxHeartbeats 4000000 in
theorem el_R_goesOn_99 (d : Nat) (s0 : Int) (h : zH) : l_R_goesOn_99 d s0 h = (zqv (m_R_joins d s0 h) fun h1 => (zqi (m_R_isSign d 43 h1) fun a3 h2 => (if a3 = 0 then (zqi (m_R_isSign d 45 h2) fun a5 h4 => (if a5 = 0 then (zqi (m_R_isSign d 42 h4) fun a7 h6 => (if a7 = 0 then (zqi (m_R_isSign d 47 h6) fun a9 h8 => (if a9 = 0 then (l_R_goesOn_161 d 14 h8) else (l_R_goesOn_161 d 13 h8))) else (l_R_goesOn_161 d 12 h6))) else (l_R_goesOn_161 d 11 h4))) else (l_R_goesOn_161 d 10 h2)))) := (zgo_eq (zrn_ext d)).trans rfl
set_option maxRecDepth 100000 in
set_option maxHeartbeats 4000000 in
theorem el_R_goesOn_161 (d : Nat) (s0 : Int) (h : zH) : l_R_goesOn_161 d s0 h = (zqv (m_R_holdsBack d s0 h) fun h1 => (zqv (m_R_ahead d h1) fun h2 => (zlt (zset h2 403 54 0) fun h3 => some ((.inl 1), h3)))) := (zgo_eq (zrn_ext d)).trans rfl
set_option maxRecDepth 100000 in
set_option maxHeartbeats 4000000 in
theorem el_R_goesOn_175 (d : Nat) (x1 x2 x3 : Int) (h : zH) : l_R_goesOn_175 d x1 x2 x3 h = (if x3 = 0 then (l_R_goesOn_272 d x1 x2 x3 h) else (if 0 ≤ x1 ∧ x1 < ((20 : Nat) : Int) then (if h 436 x1 = 0 then (zqi (m_R_isSign d 60 h) fun a2 h1 => (if a2 = 0 then (zqi (m_R_isSign d 62 h1) fun a4 h3 => (if a4 = 0 then (zqi (m_R_isSign d 61 h3) fun a6 h5 => (if a6 = 0 then (l_R_goesOn_272 d x1 x2 x3 h5) else (l_R_goesOn_215 d x1 h5))) else (l_R_goesOn_215 d x1 h3))) else (l_R_goesOn_215 d x1 h1))) else (l_R_goesOn_272 d x1 x2 x3 h)) else none)) := (zgo_eq (zrn_ext d)).trans rfl
set_option maxRecDepth 100000 in
set_option maxHeartbeats 4000000 in
theorem el_R_goesOn_215 (d : Nat) (x1 : Int) (h : zH) : l_R_goesOn_215 d x1 h = (zqv (m_R_joins d 5 h) fun h1 => (zqi (m_R_isSign d 60 h1) fun a3 h2 => (if a3 = 0 then (zqi (m_R_isSign d 62 h2) fun a5 h4 => (if a5 = 0 then (l_R_goesOn_251 d x1 19 h4) else (l_R_goesOn_251 d x1 18 h4))) else (l_R_goesOn_251 d x1 17 h2)))) := (zgo_eq (zrn_ext d)).trans rfl
set_option maxRecDepth 100000 in
set_option maxHeartbeats 4000000 in
theorem el_R_goesOn_251 (d : Nat) (x1 s0 : Int) (h : zH) : l_R_goesOn_251 d x1 s0 h = (zqv (m_R_holdsBack d s0 h) fun h1 => (if 0 ≤ x1 ∧ x1 < ((20 : Nat) : Int) then (zlt (zset h1 436 x1 1) fun h2 => (zqv (m_R_ahead d h2) fun h3 => (zlt (zset h3 403 54 0) fun h4 => some ((.inl 1), h4)))) else none)) := (zgo_eq (zrn_ext d)).trans rfl
set_option maxRecDepth 100000 in
set_option maxHeartbeats 4000000 in
theorem el_R_goesOn_272 (d : Nat) (x1 x2 x3 : Int) (h : zH) : l_R_goesOn_272 d x1 x2 x3 h = (if x3 = 0 then (l_R_goesOn_387 d x1 x2 x3 h) else (zqi (m_R_isWord d 6385252 h) fun a2 h1 => (if a2 = 0 then (zqi (m_R_isWord d 28530 h1) fun a4 h3 => (if a4 = 0 then (l_R_goesOn_387 d x1 x2 x3 h3) else (l_R_goesOn_296 d x1 h3))) else (l_R_goesOn_296 d x1 h1)))) := (zgo_eq (zrn_ext d)).trans rfl
set_option maxRecDepth 100000 in
set_option maxHeartbeats 4000000 in
theorem el_R_goesOn_296 (d : Nat) (x1 : Int) (h : zH) : l_R_goesOn_296 d x1 h = (if 0 ≤ x1 ∧ x1 < ((20 : Nat) : Int) then (if h 436 x1 = 0 then (zqv (m_R_blame d 1 (h 403 4) h) fun h1 => (l_R_goesOn_314 d x1 h1)) else (l_R_goesOn_314 d x1 h)) else none) := (zgo_eq (zrn_ext d)).trans rfl
set_option maxRecDepth 100000 in
set_option maxHeartbeats 4000000 in
theorem el_R_goesOn_314 (d : Nat) (x1 : Int) (h : zH) : l_R_goesOn_314 d x1 h = (if 0 < h 403 8 then some ((.inl 0), h) else (zqi (m_R_isWord d 6385252 h) fun a2 h1 => (if a2 = 0 then (l_R_goesOn_343 d x1 a2 1 h1) else (l_R_goesOn_343 d x1 a2 2 h1)))) := (zgo_eq (zrn_ext d)).trans rfl
set_option maxRecDepth 100000 in
set_option maxHeartbeats 4000000 in
theorem el_R_goesOn_343 (d : Nat) (x1 x4 s0 : Int) (h : zH) : l_R_goesOn_343 d x1 x4 s0 h = (zqv (m_R_joins d s0 h) fun h1 => (if x4 = 0 then (l_R_goesOn_359 d x1 21 h1) else (l_R_goesOn_359 d x1 20 h1))) := (zgo_eq (zrn_ext d)).trans rfl
set_option maxRecDepth 100000 in
set_option maxHeartbeats 4000000 in
theorem el_R_goesOn_359 (d : Nat) (x1 s0 : Int) (h : zH) : l_R_goesOn_359 d x1 s0 h = (zqv (m_R_holdsBack d s0 h) fun h1 => (if 0 ≤ x1 ∧ x1 < ((20 : Nat) : Int) then (zlt (zset h1 436 x1 0) fun h2 => (if 0 ≤ x1 ∧ x1 < ((20 : Nat) : Int) then (zlt (zset h2 437 x1 1) fun h3 => (zqv (m_R_ahead d h3) fun h4 => (zlt (zset h4 403 54 0) fun h5 => some ((.inl 1), h5)))) else none)) else none)) := (zgo_eq (zrn_ext d)).trans rfl
set_option maxRecDepth 100000 in
set_option maxHeartbeats 4000000 in
theorem el_R_goesOn_387 (d : Nat) (x1 x2 x3 : Int) (h : zH) : l_R_goesOn_387 d x1 x2 x3 h = (if x3 = 0 then (l_R_goesOn_409 d x1 x2 h) else (if 0 ≤ x1 ∧ x1 < ((20 : Nat) : Int) then (if h 436 x1 = 0 then (zqv (m_R_blame d 1 (h 403 4) h) fun h1 => (l_R_goesOn_409 d x1 x2 h1)) else (l_R_goesOn_409 d x1 x2 h)) else none)) := (zgo_eq (zrn_ext d)).trans rfl
set_option maxRecDepth 100000 in
set_option maxHeartbeats 4000000 in
theorem el_R_goesOn_409 (d : Nat) (x1 x2 : Int) (h : zH) : l_R_goesOn_409 d x1 x2 h = (if x2 < 2 then (if h 403 8 = 0 then (zqv (m_R_joins d 1 h) fun h4 => some ((.inl 0), h4)) else some ((.inl 0), h)) else (if x2 = 3 then (zqi (m_R_isSign d 44 h) fun a2 h1 => (if a2 = 0 then (zqv (m_R_blame d 1 (h1 403 4) h1) fun h3 => (l_R_goesOn_451 d x1 h3)) else (l_R_goesOn_451 d x1 h1))) else (if x2 = 5 then (l_R_goesOn_496 d x1 x2 93 h) else (l_R_goesOn_496 d x1 x2 41 h)))) := (zgo_eq (zrn_ext d)).trans rfl
set_option maxRecDepth 100000 in
set_option maxHeartbeats 4000000 in
theorem el_R_goesOn_451 (d : Nat) (x1 : Int) (h : zH) : l_R_goesOn_451 d x1 h = (if 0 < h 403 8 then some ((.inl 0), h) else (zqv (m_R_joins d 1 h) fun h1 => (if 0 ≤ x1 ∧ x1 < ((20 : Nat) : Int) then (zlt (zset h1 435 x1 4) fun h2 => (zqv (m_R_ahead d h2) fun h3 => (zlt (zset h3 403 54 0) fun h4 => some ((.inl 1), h4)))) else none))) := (zgo_eq (zrn_ext d)).trans rfl
set_option maxRecDepth 100000 in
set_option maxHeartbeats 4000000 in
theorem el_R_goesOn_496 (d : Nat) (x1 x2 s0 : Int) (h : zH) : l_R_goesOn_496 d x1 x2 s0 h = (zqi (m_R_isSign d s0 h) fun a2 h1 => (if a2 = 0 then (zqv (m_R_blame d 1 (h1 403 4) h1) fun h3 => (l_R_goesOn_511 d x1 x2 h3)) else (l_R_goesOn_511 d x1 x2 h1))) := (zgo_eq (zrn_ext d)).trans rfl
set_option maxRecDepth 100000 in
set_option maxHeartbeats 4000000 in
theorem el_R_goesOn_511 (d : Nat) (x1 x2 : Int) (h : zH) : l_R_goesOn_511 d x1 x2 h = (if 0 < h 403 8 then some ((.inl 0), h) else (zqv (m_R_joins d 1 h) fun h1 => (zlt (zset h1 403 50 (w32 ((h1 403 50) - 1))) fun h2 => (zlt (zset h2 403 51 (w32 ((h2 403 51) - 1))) fun h3 => (if x2 = 4 then (if 0 ≤ x1 ∧ x1 < ((20 : Nat) : Int) then (zqv (m_R_add d (h3 438 x1) 0 h3) fun h4 => (l_R_goesOn_561 d x2 h4)) else none) else (l_R_goesOn_561 d x2 h3)))))) := (zgo_eq (zrn_ext d)).trans rfl
set_option maxRecDepth 100000 in
set_option maxHeartbeats 4000000 in
theorem el_R_goesOn_561 (d : Nat) (x2 : Int) (h : zH) : l_R_goesOn_561 d x2 h = (if x2 = 5 then (if 0 ≤ w32 ((h 403 50) - 1) ∧ w32 ((h 403 50) - 1) < ((20 : Nat) : Int) then (zlt (zset h 436 (w32 ((h 403 50) - 1)) 2) fun h2 => (zqv (m_R_ahead d h2) fun h3 => some ((.inl 1), h3))) else none) else (zqv (m_R_ahead d h) fun h1 => some ((.inl 1), h1))) := (zgo_eq (zrn_ext d)).trans rfl
set_option maxRecDepth 100000 in
set_option maxHeartbeats 4000000 in
theorem em_R_reads (d : Nat) (x1 : Int) (h : zH) : m_R_reads (d + 1) x1 h = (if 0 < h 403 8 then some (.inl 0, h) else (zlt (zset h 403 50 0) fun h1 => (zlt (zset h1 403 51 0) fun h2 => (zlt (zset h2 403 53 0) fun h3 => (zlt (zset h3 403 54 0) fun h4 => (if x1 = 0 then (zqv (m_R_pushes d 0 h4) fun h5 => (l_R_reads_43 d 1 h5)) else (zqv (m_R_pushes d 1 h4) fun h6 => (l_R_reads_43 d 1 h6)))))))) := (zF_at zMT_227).trans ((zgo_eq (zrn_ext d)).trans rfl)
set_option maxRecDepth 100000 in
set_option maxHeartbeats 4000000 in
theorem el_R_reads_43 (d : Nat) (x2 : Int) (h : zH) : l_R_reads_43 d x2 h = (if x2 = 0 then some (.inl 0, h) else (if h 403 54 = 0 then (zqi (m_R_operand d h) fun a4 h3 => (zbo a4 (zlt (zset h3 403 54 a4) fun h5 => (l_R_reads_70 d x2 h5)))) else (zqi (m_R_goesOn d h) fun a2 h1 => (l_R_reads_70 d a2 h1)))) := (zgo_eq (zrn_ext d)).trans rfl
set_option maxRecDepth 100000 in
set_option maxHeartbeats 4000000 in
theorem el_R_reads_70 (d : Nat) (x2 : Int) (h : zH) : l_R_reads_70 d x2 h = (if x2 = 0 then (l_R_reads_43 d 0 h) else (if h 403 8 = 0 then (l_R_reads_43 d 1 h) else (l_R_reads_43 d 0 h))) := (zgo_eq (zrn_ext d)).trans rfl
set_option maxRecDepth 100000 in
set_option maxHeartbeats 4000000 in
theorem em_R_counts (d : Nat) (x1 : Int) (h : zH) : m_R_counts (d + 1) x1 h = (if h 403 8 = 0 then (if x1 = 0 then (if h 403 8 = 0 then (zqv (m_R_ahead d h) fun h2 => (l_R_counts_31 d h2)) else (l_R_counts_31 d h)) else (zqv (m_R_blame d 5 (h 403 4) h) fun h3 => (if h3 403 8 = 0 then (zqv (m_R_ahead d h3) fun h4 => (l_R_counts_31 d h4)) else (l_R_counts_31 d h3)))) else (if h 403 8 = 0 then (zqv (m_R_ahead d h) fun h1 => (l_R_counts_31 d h1)) else (l_R_counts_31 d h))) := (zF_at zMT_228).trans ((zgo_eq (zrn_ext d)).trans rfl)
set_option maxRecDepth 100000 in
set_option maxHeartbeats 4000000 in
theorem el_R_counts_31 (d : Nat) (h : zH) : l_R_counts_31 d h = (if h 403 8 = 0 then some ((.inl 1), h) else some ((.inl 0), h)) := (zgo_eq (zrn_ext d)).trans rfl
set_option maxRecDepth 100000 in
set_option maxHeartbeats 4000000 in
theorem em_R_mustW (d : Nat) (x1 : Int) (h : zH) : m_R_mustW (d + 1) x1 h = (if 0 < h 403 8 then some (.inl 0, h) else (zqi (m_R_isWord d x1 h) fun a2 h1 => (if a2 = 0 then (zqv (m_R_blame d 1 (h1 403 4) h1) fun h3 => (l_R_mustW_25 d h3)) else (l_R_mustW_25 d h1)))) := (zF_at zMT_229).trans ((zgo_eq (zrn_ext d)).trans rfl)
set_option maxRecDepth 100000 in
set_option maxHeartbeats 4000000 in
theorem el_R_mustW_25 (d : Nat) (h : zH) : l_R_mustW_25 d h = (if h 403 8 = 0 then (zqv (m_R_ahead d h) fun h1 => some (.inl 0, h1)) else some (.inl 0, h)) := (zgo_eq (zrn_ext d)).trans rfl
set_option maxRecDepth 100000 in
set_option maxHeartbeats 4000000 in
theorem em_R_fresh (d : Nat) (h : zH) : m_R_fresh (d + 1) h = (if 0 < h 403 8 then some ((.inr (.inl 0)), h) else (if h 403 3 = 1 then (zqi (m_R_isOwn d (h 403 7) h) fun a2 h1 => (if a2 = 0 then (l_R_fresh_39 d 0 h1) else (l_R_fresh_28 d h1))) else (l_R_fresh_28 d h))) := (zF_at zMT_230).trans ((zgo_eq (zrn_ext d)).trans rfl)
set_option maxRecDepth 100000 in
set_option maxHeartbeats 4000000 in
theorem el_R_fresh_28 (d : Nat) (h : zH) : l_R_fresh_28 d h = (zqv (m_R_blame d 1 (h 403 4) h) fun h1 => (l_R_fresh_39 d 0 h1)) := (zgo_eq (zrn_ext d)).trans rfl
set_option maxRecDepth 100000 in
set_option maxHeartbeats 4000000 in
theorem el_R_fresh_39 (d : Nat) (x1 : Int) (h : zH) : l_R_fresh_39 d x1 h = (if 2 < x1 then (l_R_fresh_79 d h) else (if h 403 8 = 0 then (zqi (m_R_named d x1 (h 403 7) h) fun a2 h1 => (if a2 = (-1) then (l_R_fresh_39 d (w32 (x1 + 1)) h1) else (zqv (m_R_blame d 2 (h1 403 4) h1) fun h3 => (l_R_fresh_39 d (w32 (x1 + 1)) h3)))) else (l_R_fresh_79 d h))) := (zgo_eq (zrn_ext d)).trans rfl
set_option maxRecDepth 100000 in
set_option maxHeartbeats 4000000 in
theorem el_R_fresh_79 (d : Nat) (h : zH) : l_R_fresh_79 d h = (if h 403 8 = 0 then (zqv (m_R_ahead d h) fun h1 => some ((.inr (.inl (h 403 7))), h1)) else some ((.inr (.inl (h 403 7))), h)) := (zgo_eq (zrn_ext d)).trans rfl
set_option maxRecDepth 100000 in
set_option maxHeartbeats 4000000 in
theorem em_R_askedOwner (d : Nat) (h : zH) : m_R_askedOwner (d + 1) h = (if 0 < h 403 8 then some ((.inl 0), h) else (if h 403 3 = 1 then (zqi (m_R_isOwn d (h 403 7) h) fun a3 h2 => (if a3 = 0 then (l_R_askedOwner_37 d h2) else (zqv (m_R_blame d 1 (h2 403 4) h2) fun h4 => (l_R_askedOwner_37 d h4)))) else (zqv (m_R_blame d 1 (h 403 4) h) fun h1 => (l_R_askedOwner_37 d h1)))) := (zF_at zMT_231).trans ((zgo_eq (zrn_ext d)).trans rfl)
set_option maxRecDepth 100000 in
set_option maxHeartbeats 4000000 in
theorem el_R_askedOwner_37 (d : Nat) (h : zH) : l_R_askedOwner_37 d h = (if 0 < h 403 8 then (l_R_askedOwner_57 d 0 h) else (zqi (m_R_named d 0 (h 403 7) h) fun a2 h1 => (l_R_askedOwner_57 d a2 h1))) := (zgo_eq (zrn_ext d)).trans rfl
set_option maxRecDepth 100000 in
set_option maxHeartbeats 4000000 in
theorem el_R_askedOwner_57 (d : Nat) (s0 : Int) (h : zH) : l_R_askedOwner_57 d s0 h = (if h 403 8 = 0 then (if s0 = (-1) then (zqv (m_R_blame d 3 (h 403 4) h) fun h3 => (if h3 403 8 = 0 then (zqv (m_R_ahead d h3) fun h4 => (l_R_askedOwner_90 d s0 h4)) else (l_R_askedOwner_90 d s0 h3))) else (if h 403 8 = 0 then (zqv (m_R_ahead d h) fun h2 => (l_R_askedOwner_90 d s0 h2)) else (l_R_askedOwner_90 d s0 h))) else (if h 403 8 = 0 then (zqv (m_R_ahead d h) fun h1 => (l_R_askedOwner_90 d s0 h1)) else (l_R_askedOwner_90 d s0 h))) := (zgo_eq (zrn_ext d)).trans rfl
set_option maxRecDepth 100000 in
set_option maxHeartbeats 4000000 in
theorem el_R_askedOwner_90 (d : Nat) (x1 : Int) (h : zH) : l_R_askedOwner_90 d x1 h = (if 0 < h 403 8 then some ((.inl 0), h) else some ((.inl x1), h)) := (zgo_eq (zrn_ext d)).trans rfl
set_option maxRecDepth 100000 in
set_option maxHeartbeats 4000000 in
theorem em_R_cellFrom (d : Nat) (x1 x2 : Int) (h : zH) : m_R_cellFrom (d + 1) x1 x2 h = (if 0 ≤ h 403 44 ∧ h 403 44 < ((2 : Nat) : Int) then (zqi (m_R_number d x1 (w32 ((h 405 (h 403 44)) - 1)) h) fun a2 h1 => (if 0 ≤ h1 403 44 ∧ h1 403 44 < ((2 : Nat) : Int) then (zqi (m_R_number d x2 (w32 ((h1 406 (h1 403 44)) - 1)) h1) fun a4 h3 => (if 0 < h3 403 8 then some ((.inl 0), h3) else (if 0 ≤ h3 403 44 ∧ h3 403 44 < ((2 : Nat) : Int) then some ((.inl (w32 ((w32 (a4 * (h3 405 (h3 403 44)))) + a2))), h3) else none))) else none)) else none) := (zF_at zMT_232).trans ((zgo_eq (zrn_ext d)).trans rfl)
set_option maxRecDepth 100000 in
set_option maxHeartbeats 4000000 in
theorem em_R_isTaken (d : Nat) (x1 : Int) (h : zH) : m_R_isTaken (d + 1) x1 h = (l_R_isTaken_2 d x1 0 h) := (zF_at zMT_233).trans ((zgo_eq (zrn_ext d)).trans rfl)
set_option maxRecDepth 100000 in
set_option maxHeartbeats 4000000 in
theorem el_R_isTaken_2 (d : Nat) (x1 x2 : Int) (h : zH) : l_R_isTaken_2 d x1 x2 h = (if 0 ≤ h 403 44 ∧ h 403 44 < ((2 : Nat) : Int) then (if x2 < h 415 (h 403 44) then (if 0 ≤ w32 ((w32 (10 * (h 403 44))) + x2) ∧ w32 ((w32 (10 * (h 403 44))) + x2) < ((20 : Nat) : Int) then (if h 419 (w32 ((w32 (10 * (h 403 44))) + x2)) = x1 then some ((.inl 1), h) else (l_R_isTaken_2 d x1 (w32 (x2 + 1)) h)) else none) else (l_R_isTaken_43 d x1 0 h)) else none) := (zgo_eq (zrn_ext d)).trans rfl
set_option maxRecDepth 100000 in
set_option maxHeartbeats 4000000 in
theorem el_R_isTaken_43 (d : Nat) (x1 x2 : Int) (h : zH) : l_R_isTaken_43 d x1 x2 h = (if 0 ≤ h 403 44 ∧ h 403 44 < ((2 : Nat) : Int) then (if x2 < h 420 (h 403 44) then (if 0 ≤ w32 ((w32 (8 * (h 403 44))) + x2) ∧ w32 ((w32 (8 * (h 403 44))) + x2) < ((16 : Nat) : Int) then (if h 423 (w32 ((w32 (8 * (h 403 44))) + x2)) = x1 then some ((.inl 1), h) else (l_R_isTaken_43 d x1 (w32 (x2 + 1)) h)) else none) else (if 0 ≤ w32 ((w32 (60 * (h 403 44))) + x1) ∧ w32 ((w32 (60 * (h 403 44))) + x1) < ((120 : Nat) : Int) then (if 0 < h 411 (w32 ((w32 (60 * (h 403 44))) + x1)) then some ((.inl 1), h) else some ((.inl 0), h)) else none)) else none) := (zgo_eq (zrn_ext d)).trans rfl
set_option maxRecDepth 100000 in
set_option maxHeartbeats 4000000 in
theorem em_R_freeCell (d : Nat) (h : zH) : m_R_freeCell (d + 1) h = (if 0 ≤ h 403 44 ∧ h 403 44 < ((2 : Nat) : Int) then (zqi (m_R_number d 0 (w32 ((h 405 (h 403 44)) - 1)) h) fun a2 h1 => (if 0 < h1 403 8 then some ((.inl 0), h1) else (if h1 403 3 = 2 then (if 0 ≤ h1 403 44 ∧ h1 403 44 < ((2 : Nat) : Int) then (zqi (m_R_is d (h1 403 6) 0 (w32 ((h1 406 (h1 403 44)) - 1)) h1) fun a4 h3 => (if a4 = 0 then (l_R_freeCell_61 d a2 0 h3) else (l_R_freeCell_61 d a2 1 h3))) else none) else (l_R_freeCell_61 d a2 0 h1)))) else none) := (zF_at zMT_234).trans ((zgo_eq (zrn_ext d)).trans rfl)
set_option maxRecDepth 100000 in
set_option maxHeartbeats 4000000 in
theorem el_R_freeCell_61 (d : Nat) (x1 s0 : Int) (h : zH) : l_R_freeCell_61 d x1 s0 h = (if s0 = 0 then (l_R_freeCell_98 d x1 h) else (if 0 ≤ h 403 44 ∧ h 403 44 < ((2 : Nat) : Int) then (zqi (m_R_isTaken d (w32 ((w32 ((h 403 6) * (h 405 (h 403 44)))) + x1)) h) fun a2 h1 => (if a2 = 0 then (l_R_freeCell_98 d x1 h1) else (zqv (m_R_blame d 4 (h1 403 4) h1) fun h3 => (l_R_freeCell_98 d x1 h3)))) else none)) := (zgo_eq (zrn_ext d)).trans rfl
set_option maxRecDepth 100000 in
set_option maxHeartbeats 4000000 in
theorem el_R_freeCell_98 (d : Nat) (x1 : Int) (h : zH) : l_R_freeCell_98 d x1 h = (if 0 ≤ h 403 44 ∧ h 403 44 < ((2 : Nat) : Int) then (zqi (m_R_number d 0 (w32 ((h 406 (h 403 44)) - 1)) h) fun a2 h1 => (if 0 ≤ h1 403 44 ∧ h1 403 44 < ((2 : Nat) : Int) then some ((.inl (w32 ((w32 (a2 * (h1 405 (h1 403 44)))) + x1))), h1) else none)) else none) := (zgo_eq (zrn_ext d)).trans rfl
set_option maxRecDepth 100000 in
set_option maxHeartbeats 4000000 in
theorem em_R_field (d : Nat) (h : zH) : m_R_field (d + 1) h = (zqv (m_R_mustW d 439854918756 h) fun h1 => (zqi (m_R_number d 2 10 h1) fun a3 h2 => (if 0 ≤ h1 403 44 ∧ h1 403 44 < ((2 : Nat) : Int) then (zlt (zset h2 405 (h1 403 44) a3) fun h4 => (if 0 < h4 403 8 then (zqi (m_R_number d 2 10 h4) fun a12 h11 => (if 0 ≤ h4 403 44 ∧ h4 403 44 < ((2 : Nat) : Int) then (zlt (zset h11 406 (h4 403 44) a12) fun h13 => some (.inl 0, h13)) else none)) else (if 0 ≤ h4 403 44 ∧ h4 403 44 < ((2 : Nat) : Int) then (zdz (h4 405 (h4 403 44)) (if w32 (Int.tdiv 60 (h4 405 (h4 403 44))) < 10 then (if 0 ≤ h4 403 44 ∧ h4 403 44 < ((2 : Nat) : Int) then (zdz (h4 405 (h4 403 44)) (zqi (m_R_number d 2 (w32 (Int.tdiv 60 (h4 405 (h4 403 44)))) h4) fun a9 h8 => (if 0 ≤ h4 403 44 ∧ h4 403 44 < ((2 : Nat) : Int) then (zlt (zset h8 406 (h4 403 44) a9) fun h10 => some (.inl 0, h10)) else none))) else none) else (zqi (m_R_number d 2 10 h4) fun a6 h5 => (if 0 ≤ h4 403 44 ∧ h4 403 44 < ((2 : Nat) : Int) then (zlt (zset h5 406 (h4 403 44) a6) fun h7 => some (.inl 0, h7)) else none)))) else none))) else none))) := (zF_at zMT_235).trans ((zgo_eq (zrn_ext d)).trans rfl)
set_option maxRecDepth 100000 in
set_option maxHeartbeats 4000000 in
theorem em_R_row (d : Nat) (h : zH) : m_R_row (d + 1) h = (if 0 ≤ h 403 44 ∧ h 403 44 < ((2 : Nat) : Int) then (if 0 ≤ h 403 44 ∧ h 403 44 < ((2 : Nat) : Int) then (if h 407 (h 403 44) = h 406 (h 403 44) then (zqi (m_R_counts d 1 h) fun a4 h3 => (if a4 = 0 then some (.inl 0, h3) else (l_R_row_36 d 0 h3))) else (zqi (m_R_counts d 0 h) fun a2 h1 => (if a2 = 0 then some (.inl 0, h1) else (l_R_row_36 d 0 h1)))) else none) else none) := (zF_at zMT_236).trans ((zgo_eq (zrn_ext d)).trans rfl)
set_option maxRecDepth 100000 in
set_option maxHeartbeats 4000000 in
theorem el_R_row_36 (d : Nat) (x1 : Int) (h : zH) : l_R_row_36 d x1 h = (if 0 ≤ h 403 44 ∧ h 403 44 < ((2 : Nat) : Int) then (if x1 < h 405 (h 403 44) then (if 0 ≤ h 403 44 ∧ h 403 44 < ((2 : Nat) : Int) then (if 0 ≤ h 403 44 ∧ h 403 44 < ((2 : Nat) : Int) then (zqi (m_R_number d 0 999 h) fun a3 h2 => (if 0 ≤ w32 ((w32 ((w32 (60 * (h 403 44))) + (w32 ((h 407 (h 403 44)) * (h 405 (h 403 44)))))) + x1) ∧ w32 ((w32 ((w32 (60 * (h 403 44))) + (w32 ((h 407 (h 403 44)) * (h 405 (h 403 44)))))) + x1) < ((120 : Nat) : Int) then (zlt (zset h2 408 (w32 ((w32 ((w32 (60 * (h 403 44))) + (w32 ((h 407 (h 403 44)) * (h 405 (h 403 44)))))) + x1)) a3) fun h4 => (l_R_row_36 d (w32 (x1 + 1)) h4)) else none)) else none) else none) else (if h 403 8 = 0 then (if 0 ≤ h 403 44 ∧ h 403 44 < ((2 : Nat) : Int) then (if 0 ≤ h 403 44 ∧ h 403 44 < ((2 : Nat) : Int) then (zlt (zset h 407 (h 403 44) (w32 ((h 407 (h 403 44)) + 1))) fun h1 => some (.inl 0, h1)) else none) else none) else some (.inl 0, h))) else none) := (zgo_eq (zrn_ext d)).trans rfl
set_option maxRecDepth 100000 in
set_option maxHeartbeats 4000000 in
theorem em_R_roughing (d : Nat) (h : zH) : m_R_roughing (d + 1) h = (zqi (m_R_counts d 0 h) fun a2 h1 => (if a2 = 0 then some (.inl 0, h1) else (zqi (m_R_number d 1 99 h1) fun a4 h3 => (zqv (m_R_mustW d 24948 h3) fun h5 => (zqi (m_R_cellFrom d 0 0 h5) fun a7 h6 => (if h6 403 8 = 0 then (if 0 ≤ w32 ((w32 (60 * (h6 403 44))) + a7) ∧ w32 ((w32 (60 * (h6 403 44))) + a7) < ((120 : Nat) : Int) then (zlt (zset h6 409 (w32 ((w32 (60 * (h6 403 44))) + a7)) a4) fun h8 => some (.inl 0, h8)) else none) else some (.inl 0, h6))))))) := (zF_at zMT_237).trans ((zgo_eq (zrn_ext d)).trans rfl)
set_option maxRecDepth 100000 in
set_option maxHeartbeats 4000000 in
theorem em_R_owning (d : Nat) (h : zH) : m_R_owning (d + 1) h = (if 0 ≤ h 403 44 ∧ h 403 44 < ((2 : Nat) : Int) then (if h 413 (h 403 44) = 6 then (l_R_owning_20 d 1 h) else (l_R_owning_20 d 0 h)) else none) := (zF_at zMT_238).trans ((zgo_eq (zrn_ext d)).trans rfl)
set_option maxRecDepth 100000 in
set_option maxHeartbeats 4000000 in
theorem el_R_owning_20 (d : Nat) (s0 : Int) (h : zH) : l_R_owning_20 d s0 h = (zqi (m_R_counts d s0 h) fun a2 h1 => (if a2 = 0 then some (.inl 0, h1) else (if 0 ≤ h1 403 44 ∧ h1 403 44 < ((2 : Nat) : Int) then (zql (m_R_fresh d h1) fun a4 h3 => (if 0 ≤ w32 ((w32 (6 * (h1 403 44))) + (h1 413 (h1 403 44))) ∧ w32 ((w32 (6 * (h1 403 44))) + (h1 413 (h1 403 44))) < ((12 : Nat) : Int) then (zlt (zset h3 414 (w32 ((w32 (6 * (h1 403 44))) + (h1 413 (h1 403 44)))) a4) fun h5 => (if h5 403 8 = 0 then (if 0 ≤ h5 403 44 ∧ h5 403 44 < ((2 : Nat) : Int) then (if 0 ≤ h5 403 44 ∧ h5 403 44 < ((2 : Nat) : Int) then (zlt (zset h5 413 (h5 403 44) (w32 ((h5 413 (h5 403 44)) + 1))) fun h6 => some (.inl 0, h6)) else none) else none) else some (.inl 0, h5))) else none)) else none))) := (zgo_eq (zrn_ext d)).trans rfl
set_option maxRecDepth 100000 in
set_option maxHeartbeats 4000000 in
theorem em_R_landing (d : Nat) (h : zH) : m_R_landing (d + 1) h = (zqi (m_R_counts d 0 h) fun a2 h1 => (if a2 = 0 then some (.inl 0, h1) else (zqi (m_R_askedOwner d h1) fun a4 h3 => (zqv (m_R_mustW d 24948 h3) fun h5 => (zqi (m_R_cellFrom d 0 0 h5) fun a7 h6 => (zqv (m_R_mustW d 29807 h6) fun h8 => (if 0 ≤ h8 403 44 ∧ h8 403 44 < ((2 : Nat) : Int) then (zdz (h8 405 (h8 403 44)) (if 0 ≤ h8 403 44 ∧ h8 403 44 < ((2 : Nat) : Int) then (zdz (h8 405 (h8 403 44)) (zqi (m_R_cellFrom d (Int.tmod a7 (h8 405 (h8 403 44))) (w32 (Int.tdiv a7 (h8 405 (h8 403 44)))) h8) fun a10 h9 => (if 0 < h9 403 8 then some (.inl 0, h9) else (if 0 ≤ h9 403 44 ∧ h9 403 44 < ((2 : Nat) : Int) then (zdz (h9 405 (h9 403 44)) (l_R_landing_83 d a4 a7 a10 (w32 (Int.tdiv a7 (h9 405 (h9 403 44)))) h9)) else none)))) else none)) else none))))))) := (zF_at zMT_239).trans ((zgo_eq (zrn_ext d)).trans rfl)
set_option maxRecDepth 100000 in
set_option maxHeartbeats 4000000 in
theorem el_R_landing_83 (d : Nat) (x1 x2 x3 x4 : Int) (h : zH) : l_R_landing_83 d x1 x2 x3 x4 h = (if 0 ≤ h 403 44 ∧ h 403 44 < ((2 : Nat) : Int) then (zdz (h 405 (h 403 44)) (if w32 (Int.tdiv x3 (h 405 (h 403 44))) < x4 then some (.inl 0, h) else (if 0 ≤ h 403 44 ∧ h 403 44 < ((2 : Nat) : Int) then (zdz (h 405 (h 403 44)) (l_R_landing_112 d x1 x2 x3 x4 (Int.tmod x2 (h 405 (h 403 44))) h)) else none))) else none) := (zgo_eq (zrn_ext d)).trans rfl
set_option maxRecDepth 100000 in
set_option maxHeartbeats 4000000 in
theorem el_R_landing_112 (d : Nat) (x1 x2 x3 x4 x5 : Int) (h : zH) : l_R_landing_112 d x1 x2 x3 x4 x5 h = (if 0 ≤ h 403 44 ∧ h 403 44 < ((2 : Nat) : Int) then (zdz (h 405 (h 403 44)) (if Int.tmod x3 (h 405 (h 403 44)) < x5 then (l_R_landing_83 d x1 x2 x3 (w32 (x4 + 1)) h) else (if 0 ≤ h 403 44 ∧ h 403 44 < ((2 : Nat) : Int) then (if 0 ≤ w32 ((w32 ((w32 (60 * (h 403 44))) + (w32 (x4 * (h 405 (h 403 44)))))) + x5) ∧ w32 ((w32 ((w32 (60 * (h 403 44))) + (w32 (x4 * (h 405 (h 403 44)))))) + x5) < ((120 : Nat) : Int) then (zlt (zset h 410 (w32 ((w32 ((w32 (60 * (h 403 44))) + (w32 (x4 * (h 405 (h 403 44)))))) + x5)) x1) fun h1 => (l_R_landing_112 d x1 x2 x3 x4 (w32 (x5 + 1)) h1)) else none) else none))) else none) := (zgo_eq (zrn_ext d)).trans rfl
set_option maxRecDepth 100000 in
set_option maxHeartbeats 4000000 in
theorem em_R_stoning (d : Nat) (h : zH) : m_R_stoning (d + 1) h = (if 0 ≤ h 403 44 ∧ h 403 44 < ((2 : Nat) : Int) then (if h 415 (h 403 44) = 10 then (l_R_stoning_20 d 1 h) else (l_R_stoning_20 d 0 h)) else none) := (zF_at zMT_240).trans ((zgo_eq (zrn_ext d)).trans rfl)
set_option maxRecDepth 100000 in
set_option maxHeartbeats 4000000 in
theorem el_R_stoning_20 (d : Nat) (s0 : Int) (h : zH) : l_R_stoning_20 d s0 h = (zqi (m_R_counts d s0 h) fun a2 h1 => (if a2 = 0 then some (.inl 0, h1) else (if 0 ≤ h1 403 44 ∧ h1 403 44 < ((2 : Nat) : Int) then (zql (m_R_fresh d h1) fun a4 h3 => (if 0 ≤ w32 ((w32 (10 * (h1 403 44))) + (h1 415 (h1 403 44))) ∧ w32 ((w32 (10 * (h1 403 44))) + (h1 415 (h1 403 44))) < ((20 : Nat) : Int) then (zlt (zset h3 416 (w32 ((w32 (10 * (h1 403 44))) + (h1 415 (h1 403 44)))) a4) fun h5 => (zqv (m_R_mustW d 131277443786868 h5) fun h6 => (zqi (m_R_number d 1 999 h6) fun a8 h7 => (if 0 ≤ w32 ((w32 (10 * (h1 403 44))) + (h1 415 (h1 403 44))) ∧ w32 ((w32 (10 * (h1 403 44))) + (h1 415 (h1 403 44))) < ((20 : Nat) : Int) then (zlt (zset h7 417 (w32 ((w32 (10 * (h1 403 44))) + (h1 415 (h1 403 44)))) a8) fun h9 => (zqv (m_R_mustW d 1919251316 h9) fun h10 => (zqi (m_R_number d 0 9999 h10) fun a12 h11 => (if 0 ≤ w32 ((w32 (10 * (h1 403 44))) + (h1 415 (h1 403 44))) ∧ w32 ((w32 (10 * (h1 403 44))) + (h1 415 (h1 403 44))) < ((20 : Nat) : Int) then (zlt (zset h11 418 (w32 ((w32 (10 * (h1 403 44))) + (h1 415 (h1 403 44)))) a12) fun h13 => (zqv (m_R_mustW d 24948 h13) fun h14 => (zqi (m_R_freeCell d h14) fun a16 h15 => (if 0 ≤ w32 ((w32 (10 * (h1 403 44))) + (h1 415 (h1 403 44))) ∧ w32 ((w32 (10 * (h1 403 44))) + (h1 415 (h1 403 44))) < ((20 : Nat) : Int) then (zlt (zset h15 419 (w32 ((w32 (10 * (h1 403 44))) + (h1 415 (h1 403 44)))) a16) fun h17 => (if h17 403 8 = 0 then (if 0 ≤ h17 403 44 ∧ h17 403 44 < ((2 : Nat) : Int) then (if 0 ≤ h17 403 44 ∧ h17 403 44 < ((2 : Nat) : Int) then (zlt (zset h17 415 (h17 403 44) (w32 ((h17 415 (h17 403 44)) + 1))) fun h18 => some (.inl 0, h18)) else none) else none) else some (.inl 0, h17))) else none)))) else none)))) else none)))) else none)) else none))) := (zgo_eq (zrn_ext d)).trans rfl
set_option maxRecDepth 100000 in
set_option maxHeartbeats 4000000 in
theorem em_R_housing (d : Nat) (h : zH) : m_R_housing (d + 1) h = (if 0 ≤ h 403 44 ∧ h 403 44 < ((2 : Nat) : Int) then (if h 420 (h 403 44) = 8 then (l_R_housing_20 d 1 h) else (l_R_housing_20 d 0 h)) else none) := (zF_at zMT_241).trans ((zgo_eq (zrn_ext d)).trans rfl)
set_option maxRecDepth 100000 in
set_option maxHeartbeats 4000000 in
theorem el_R_housing_20 (d : Nat) (s0 : Int) (h : zH) : l_R_housing_20 d s0 h = (zqi (m_R_counts d s0 h) fun a2 h1 => (if a2 = 0 then some (.inl 0, h1) else (if 0 ≤ h1 403 44 ∧ h1 403 44 < ((2 : Nat) : Int) then (zql (m_R_fresh d h1) fun a4 h3 => (if 0 ≤ w32 ((w32 (8 * (h1 403 44))) + (h1 420 (h1 403 44))) ∧ w32 ((w32 (8 * (h1 403 44))) + (h1 420 (h1 403 44))) < ((16 : Nat) : Int) then (zlt (zset h3 421 (w32 ((w32 (8 * (h1 403 44))) + (h1 420 (h1 403 44)))) a4) fun h5 => (zqv (m_R_mustW d 512970880104 h5) fun h6 => (zqi (m_R_number d 1 999 h6) fun a8 h7 => (if 0 ≤ w32 ((w32 (8 * (h1 403 44))) + (h1 420 (h1 403 44))) ∧ w32 ((w32 (8 * (h1 403 44))) + (h1 420 (h1 403 44))) < ((16 : Nat) : Int) then (zlt (zset h7 422 (w32 ((w32 (8 * (h1 403 44))) + (h1 420 (h1 403 44)))) a8) fun h9 => (zqv (m_R_mustW d 24948 h9) fun h10 => (zqi (m_R_freeCell d h10) fun a12 h11 => (if 0 ≤ w32 ((w32 (8 * (h1 403 44))) + (h1 420 (h1 403 44))) ∧ w32 ((w32 (8 * (h1 403 44))) + (h1 420 (h1 403 44))) < ((16 : Nat) : Int) then (zlt (zset h11 423 (w32 ((w32 (8 * (h1 403 44))) + (h1 420 (h1 403 44)))) a12) fun h13 => (if h13 403 8 = 0 then (if 0 ≤ h13 403 44 ∧ h13 403 44 < ((2 : Nat) : Int) then (if 0 ≤ h13 403 44 ∧ h13 403 44 < ((2 : Nat) : Int) then (zlt (zset h13 420 (h13 403 44) (w32 ((h13 420 (h13 403 44)) + 1))) fun h14 => some (.inl 0, h14)) else none) else none) else some (.inl 0, h13))) else none)))) else none)))) else none)) else none))) := (zgo_eq (zrn_ext d)).trans rfl
set_option maxRecDepth 100000 in
set_option maxHeartbeats 4000000 in
theorem em_R_walling (d : Nat) (h : zH) : m_R_walling (d + 1) h = (if 0 ≤ h 403 44 ∧ h 403 44 < ((2 : Nat) : Int) then (if h 412 (h 403 44) = 16 then (l_R_walling_20 d 1 h) else (l_R_walling_20 d 0 h)) else none) := (zF_at zMT_242).trans ((zgo_eq (zrn_ext d)).trans rfl)
set_option maxRecDepth 100000 in
set_option maxHeartbeats 4000000 in
theorem el_R_walling_20 (d : Nat) (s0 : Int) (h : zH) : l_R_walling_20 d s0 h = (zqi (m_R_counts d s0 h) fun a2 h1 => (if a2 = 0 then some (.inl 0, h1) else (zqi (m_R_number d 1 9999 h1) fun a4 h3 => (zqv (m_R_mustW d 24948 h3) fun h5 => (zqi (m_R_freeCell d h5) fun a7 h6 => (if 0 < h6 403 8 then some (.inl 0, h6) else (if 0 ≤ w32 ((w32 (60 * (h6 403 44))) + a7) ∧ w32 ((w32 (60 * (h6 403 44))) + a7) < ((120 : Nat) : Int) then (zlt (zset h6 411 (w32 ((w32 (60 * (h6 403 44))) + a7)) a4) fun h8 => (if 0 ≤ h8 403 44 ∧ h8 403 44 < ((2 : Nat) : Int) then (if 0 ≤ h8 403 44 ∧ h8 403 44 < ((2 : Nat) : Int) then (zlt (zset h8 412 (h8 403 44) (w32 ((h8 412 (h8 403 44)) + 1))) fun h9 => some (.inl 0, h9)) else none) else none)) else none))))))) := (zgo_eq (zrn_ext d)).trans rfl
set_option maxRecDepth 100000 in
set_option maxHeartbeats 4000000 in
theorem em_R_thawing (d : Nat) (h : zH) : m_R_thawing (d + 1) h = (if 0 ≤ h 403 44 ∧ h 403 44 < ((2 : Nat) : Int) then (if h 424 (h 403 44) = 6 then (l_R_thawing_20 d 1 h) else (l_R_thawing_20 d 0 h)) else none) := (zF_at zMT_243).trans ((zgo_eq (zrn_ext d)).trans rfl)
set_option maxRecDepth 100000 in
set_option maxHeartbeats 4000000 in
theorem el_R_thawing_20 (d : Nat) (s0 : Int) (h : zH) : l_R_thawing_20 d s0 h = (zqi (m_R_counts d s0 h) fun a2 h1 => (if a2 = 0 then some (.inl 0, h1) else (if 0 ≤ h1 403 44 ∧ h1 403 44 < ((2 : Nat) : Int) then (zqi (m_R_number d 0 9999 h1) fun a4 h3 => (if 0 ≤ w32 ((w32 (6 * (h1 403 44))) + (h1 424 (h1 403 44))) ∧ w32 ((w32 (6 * (h1 403 44))) + (h1 424 (h1 403 44))) < ((12 : Nat) : Int) then (zlt (zset h3 425 (w32 ((w32 (6 * (h1 403 44))) + (h1 424 (h1 403 44)))) a4) fun h5 => (zqv (m_R_mustW d 1868850291 h5) fun h6 => (zqi (m_R_number d 1 99 h6) fun a8 h7 => (if 0 ≤ w32 ((w32 (6 * (h1 403 44))) + (h1 424 (h1 403 44))) ∧ w32 ((w32 (6 * (h1 403 44))) + (h1 424 (h1 403 44))) < ((12 : Nat) : Int) then (zlt (zset h7 426 (w32 ((w32 (6 * (h1 403 44))) + (h1 424 (h1 403 44)))) a8) fun h9 => (if h9 403 8 = 0 then (if 0 ≤ h9 403 44 ∧ h9 403 44 < ((2 : Nat) : Int) then (if 0 ≤ h9 403 44 ∧ h9 403 44 < ((2 : Nat) : Int) then (zlt (zset h9 424 (h9 403 44) (w32 ((h9 424 (h9 403 44)) + 1))) fun h10 => some (.inl 0, h10)) else none) else none) else some (.inl 0, h9))) else none)))) else none)) else none))) := (zgo_eq (zrn_ext d)).trans rfl
set_option maxRecDepth 100000 in
set_option maxHeartbeats 4000000 in
theorem em_R_roping (d : Nat) (h : zH) : m_R_roping (d + 1) h = (if 0 ≤ h 403 44 ∧ h 403 44 < ((2 : Nat) : Int) then (if h 427 (h 403 44) = 9 then (l_R_roping_20 d 1 h) else (l_R_roping_20 d 0 h)) else none) := (zF_at zMT_244).trans ((zgo_eq (zrn_ext d)).trans rfl)
set_option maxRecDepth 100000 in
set_option maxHeartbeats 4000000 in
theorem el_R_roping_20 (d : Nat) (s0 : Int) (h : zH) : l_R_roping_20 d s0 h = (zqi (m_R_counts d s0 h) fun a2 h1 => (if a2 = 0 then some (.inl 0, h1) else (if 0 ≤ h1 403 44 ∧ h1 403 44 < ((2 : Nat) : Int) then (zqi (m_R_number d 1 9999 h1) fun a4 h3 => (if 0 ≤ w32 ((w32 (9 * (h1 403 44))) + (h1 427 (h1 403 44))) ∧ w32 ((w32 (9 * (h1 403 44))) + (h1 427 (h1 403 44))) < ((18 : Nat) : Int) then (zlt (zset h3 428 (w32 ((w32 (9 * (h1 403 44))) + (h1 427 (h1 403 44)))) a4) fun h5 => (if h5 403 8 = 0 then (if 0 ≤ h5 403 44 ∧ h5 403 44 < ((2 : Nat) : Int) then (if 0 ≤ h5 403 44 ∧ h5 403 44 < ((2 : Nat) : Int) then (zlt (zset h5 427 (h5 403 44) (w32 ((h5 427 (h5 403 44)) + 1))) fun h6 => some (.inl 0, h6)) else none) else none) else some (.inl 0, h5))) else none)) else none))) := (zgo_eq (zrn_ext d)).trans rfl
set_option maxRecDepth 100000 in
set_option maxHeartbeats 4000000 in
theorem em_R_lawing (d : Nat) (h : zH) : m_R_lawing (d + 1) h = (if 0 ≤ h 403 44 ∧ h 403 44 < ((2 : Nat) : Int) then (if h 429 (h 403 44) = 8 then (l_R_lawing_20 d 1 h) else (l_R_lawing_20 d 0 h)) else none) := (zF_at zMT_245).trans ((zgo_eq (zrn_ext d)).trans rfl)
set_option maxRecDepth 100000 in
set_option maxHeartbeats 4000000 in
theorem el_R_lawing_20 (d : Nat) (s0 : Int) (h : zH) : l_R_lawing_20 d s0 h = (zqi (m_R_counts d s0 h) fun a2 h1 => (if a2 = 0 then some (.inl 0, h1) else (if 0 ≤ h1 403 44 ∧ h1 403 44 < ((2 : Nat) : Int) then (if 0 ≤ w32 ((w32 (8 * (h1 403 44))) + (h1 429 (h1 403 44))) ∧ w32 ((w32 (8 * (h1 403 44))) + (h1 429 (h1 403 44))) < ((16 : Nat) : Int) then (zlt (zset h1 430 (w32 ((w32 (8 * (h1 403 44))) + (h1 429 (h1 403 44)))) (h1 403 43)) fun h3 => (zqv (m_R_reads d 0 h3) fun h4 => (if 0 ≤ w32 ((w32 (8 * (h1 403 44))) + (h1 429 (h1 403 44))) ∧ w32 ((w32 (8 * (h1 403 44))) + (h1 429 (h1 403 44))) < ((16 : Nat) : Int) then (zlt (zset h4 431 (w32 ((w32 (8 * (h1 403 44))) + (h1 429 (h1 403 44)))) (h4 403 43)) fun h5 => (zqv (m_R_mustW d 2003330414 h5) fun h6 => (zqv (m_R_reads d 1 h6) fun h7 => (if 0 ≤ w32 ((w32 (8 * (h1 403 44))) + (h1 429 (h1 403 44))) ∧ w32 ((w32 (8 * (h1 403 44))) + (h1 429 (h1 403 44))) < ((16 : Nat) : Int) then (zlt (zset h7 432 (w32 ((w32 (8 * (h1 403 44))) + (h1 429 (h1 403 44)))) (h7 403 43)) fun h8 => (if h8 403 8 = 0 then (if 0 ≤ h8 403 44 ∧ h8 403 44 < ((2 : Nat) : Int) then (if 0 ≤ h8 403 44 ∧ h8 403 44 < ((2 : Nat) : Int) then (zlt (zset h8 429 (h8 403 44) (w32 ((h8 429 (h8 403 44)) + 1))) fun h9 => some (.inl 0, h9)) else none) else none) else some (.inl 0, h8))) else none)))) else none))) else none) else none))) := (zgo_eq (zrn_ext d)).trans rfl
set_option maxRecDepth 100000 in
set_option maxHeartbeats 4000000 in
theorem em_R_statement (d : Nat) (h : zH) : m_R_statement (d + 1) h = (zqi (m_R_isWord d 7499639 h) fun a2 h1 => (if a2 = 0 then (zqi (m_R_isWord d 491496236904 h1) fun a4 h3 => (if a4 = 0 then (zqi (m_R_isWord d 478745093490 h3) fun a6 h5 => (if a6 = 0 then (zqi (m_R_isWord d 1818324580 h5) fun a8 h7 => (if a8 = 0 then (zqi (m_R_isWord d 495874698853 h7) fun a10 h9 => (if a10 = 0 then (zqi (m_R_isWord d 448546567013 h9) fun a12 h11 => (if a12 = 0 then (zqv (m_R_others d h11) fun h13 => some (.inl 0, h13)) else (zqv (m_R_housing d h11) fun h14 => some (.inl 0, h14)))) else (zqv (m_R_stoning d h9) fun h15 => some (.inl 0, h15)))) else (zqv (m_R_landing d h7) fun h16 => some (.inl 0, h16)))) else (zqv (m_R_owning d h5) fun h17 => some (.inl 0, h17)))) else (zqv (m_R_roughing d h3) fun h18 => some (.inl 0, h18)))) else (zqv (m_R_row d h1) fun h19 => some (.inl 0, h19)))) := (zF_at zMT_246).trans ((zgo_eq (zrn_ext d)).trans rfl)
set_option maxRecDepth 100000 in
set_option maxHeartbeats 4000000 in
theorem em_R_ends (d : Nat) (x1 : Int) (h : zH) : m_R_ends (d + 1) x1 h = (if 0 < h 403 8 then some (.inl 0, h) else (l_R_ends_13 d x1 (h 403 5) h)) := (zF_at zMT_247).trans ((zgo_eq (zrn_ext d)).trans rfl)
set_option maxRecDepth 100000 in
set_option maxHeartbeats 4000000 in
theorem el_R_ends_13 (d : Nat) (x1 x2 : Int) (h : zH) : l_R_ends_13 d x1 x2 h = (if x2 < h 403 2 then (if 0 ≤ x2 ∧ x2 < ((1800 : Nat) : Int) then (if h 404 x2 = 32 then (l_R_ends_13 d x1 (w32 (x2 + 1)) h) else (if 0 ≤ x2 ∧ x2 < ((1800 : Nat) : Int) then (if h 404 x2 = 10 then (l_R_ends_13 d x1 (w32 (x2 + 1)) h) else (l_R_ends_49 d x1 x2 h)) else none)) else none) else (l_R_ends_49 d x1 x2 h)) := (zgo_eq (zrn_ext d)).trans rfl
set_option maxRecDepth 100000 in
set_option maxHeartbeats 4000000 in
theorem el_R_ends_49 (d : Nat) (x1 x2 : Int) (h : zH) : l_R_ends_49 d x1 x2 h = (zqi (m_R_isSign d 59 h) fun a2 h1 => (if a2 = 0 then (zqv (m_R_must d 59 h1) fun h3 => some (.inl 0, h3)) else (if x1 = 100 then (if x2 < h1 403 2 then (zqv (m_R_blame d 5 x2 h1) fun h6 => (zqv (m_R_must d 59 h6) fun h7 => some (.inl 0, h7))) else (zqv (m_R_must d 59 h1) fun h5 => some (.inl 0, h5))) else (zqv (m_R_must d 59 h1) fun h4 => some (.inl 0, h4))))) := (zgo_eq (zrn_ext d)).trans rfl
set_option maxRecDepth 100000 in
set_option maxHeartbeats 4000000 in
theorem em_R_others (d : Nat) (h : zH) : m_R_others (d + 1) h = (zqi (m_R_isWord d 2002873452 h) fun a2 h1 => (if a2 = 0 then (zqi (m_R_isWord d 1952997751 h1) fun a4 h3 => (if a4 = 0 then (zqi (m_R_isWord d 1919905893 h3) fun a6 h5 => (if a6 = 0 then (zqi (m_R_isWord d 6583653 h5) fun a8 h7 => (if a8 = 0 then (zqv (m_R_blame d 1 (h7 403 4) h7) fun h9 => some (.inl 0, h9)) else (zqv (m_R_lawing d h7) fun h10 => some (.inl 0, h10)))) else (zqv (m_R_roping d h5) fun h11 => some (.inl 0, h11)))) else (zqv (m_R_thawing d h3) fun h12 => some (.inl 0, h12)))) else (zqv (m_R_walling d h1) fun h13 => some (.inl 0, h13)))) := (zF_at zMT_248).trans ((zgo_eq (zrn_ext d)).trans rfl)
set_option maxRecDepth 100000 in
set_option maxHeartbeats 4000000 in
theorem em_R_clears (d : Nat) (h : zH) : m_R_clears (d + 1) h = (if 0 ≤ h 403 44 ∧ h 403 44 < ((2 : Nat) : Int) then (zlt (zset h 407 (h 403 44) 0) fun h1 => (if 0 ≤ h1 403 44 ∧ h1 403 44 < ((2 : Nat) : Int) then (zlt (zset h1 412 (h1 403 44) 0) fun h2 => (if 0 ≤ h2 403 44 ∧ h2 403 44 < ((2 : Nat) : Int) then (zlt (zset h2 413 (h2 403 44) 0) fun h3 => (if 0 ≤ h3 403 44 ∧ h3 403 44 < ((2 : Nat) : Int) then (zlt (zset h3 415 (h3 403 44) 0) fun h4 => (if 0 ≤ h4 403 44 ∧ h4 403 44 < ((2 : Nat) : Int) then (zlt (zset h4 420 (h4 403 44) 0) fun h5 => (if 0 ≤ h5 403 44 ∧ h5 403 44 < ((2 : Nat) : Int) then (zlt (zset h5 424 (h5 403 44) 0) fun h6 => (if 0 ≤ h6 403 44 ∧ h6 403 44 < ((2 : Nat) : Int) then (zlt (zset h6 427 (h6 403 44) 0) fun h7 => (if 0 ≤ h7 403 44 ∧ h7 403 44 < ((2 : Nat) : Int) then (zlt (zset h7 429 (h7 403 44) 0) fun h8 => (zlt (zset h8 403 43 0) fun h9 => (l_R_clears_93 d (w32 (60 * (h9 403 44))) h9))) else none)) else none)) else none)) else none)) else none)) else none)) else none)) else none) := (zF_at zMT_249).trans ((zgo_eq (zrn_ext d)).trans rfl)
set_option maxRecDepth 100000 in
set_option maxHeartbeats 4000000 in
theorem el_R_clears_93 (d : Nat) (x1 : Int) (h : zH) : l_R_clears_93 d x1 h = (if x1 < w32 ((w32 (60 * (h 403 44))) + 60) then (if 0 ≤ x1 ∧ x1 < ((120 : Nat) : Int) then (zlt (zset h 408 x1 0) fun h1 => (if 0 ≤ x1 ∧ x1 < ((120 : Nat) : Int) then (zlt (zset h1 409 x1 0) fun h2 => (if 0 ≤ x1 ∧ x1 < ((120 : Nat) : Int) then (zlt (zset h2 410 x1 (-1)) fun h3 => (if 0 ≤ x1 ∧ x1 < ((120 : Nat) : Int) then (zlt (zset h3 411 x1 0) fun h4 => (l_R_clears_93 d (w32 (x1 + 1)) h4)) else none)) else none)) else none)) else none) else some (.inl 0, h)) := (zgo_eq (zrn_ext d)).trans rfl
set_option maxRecDepth 100000 in
set_option maxHeartbeats 4000000 in
theorem em_R_slope (d : Nat) (h : zH) : m_R_slope (d + 1) h = (zlt (zset h 403 2 (h 403 1)) fun h1 => (zlt (zset h1 403 1 0) fun h2 => (zlt (zset h2 403 5 0) fun h3 => (zlt (zset h3 403 8 0) fun h4 => (zlt (zset h4 403 9 (-1)) fun h5 => (zlt (zset h5 403 44 (w32 (1 - (h5 403 12)))) fun h6 => (zqv (m_R_clears d h6) fun h7 => (zqv (m_R_ahead d h7) fun h8 => (if h8 403 8 = 0 then (zqv (m_R_field d h8) fun h10 => (zqv (m_R_ends d 1 h10) fun h11 => (l_R_slope_64 d 1 h11))) else (zqv (m_R_ends d 1 h8) fun h9 => (l_R_slope_64 d 1 h9))))))))))) := (zF_at zMT_250).trans ((zgo_eq (zrn_ext d)).trans rfl)
set_option maxRecDepth 100000 in
set_option maxHeartbeats 4000000 in
theorem el_R_slope_64 (d : Nat) (x1 : Int) (h : zH) : l_R_slope_64 d x1 h = (if h 403 8 = 0 then (if h 403 3 = 0 then (l_R_slope_93 d x1 h) else (zqv (m_R_statement d h) fun h1 => (zqv (m_R_ends d (w32 (x1 + 1)) h1) fun h2 => (l_R_slope_64 d (w32 (x1 + 1)) h2)))) else (l_R_slope_93 d x1 h)) := (zgo_eq (zrn_ext d)).trans rfl
set_option maxRecDepth 100000 in
set_option maxHeartbeats 4000000 in
theorem el_R_slope_93 (d : Nat) (x1 : Int) (h : zH) : l_R_slope_93 d x1 h = (zlt (zset h 403 10 (h 403 8)) fun h1 => (zlt (zset h1 403 11 (h1 403 9)) fun h2 => (if 0 < h2 403 8 then (zqi (m_R_refuses d 1 h2) fun a6 h5 => some ((.inl a6), h5)) else (zlt (zset h2 403 12 (h2 403 44)) fun h3 => (zqv (m_R_begins d h3) fun h4 => some ((.inl x1), h4)))))) := (zgo_eq (zrn_ext d)).trans rfl
set_option maxRecDepth 100000 in
set_option maxHeartbeats 4000000 in
theorem em_R_fault (d : Nat) (x1 : Int) (h : zH) : m_R_fault (d + 1) x1 h = (if x1 = 0 then some ((.inl (h 403 10)), h) else (if x1 = 1 then some ((.inl (h 403 11)), h) else some ((.inl (-1)), h))) := (zF_at zMT_251).trans ((zgo_eq (zrn_ext d)).trans rfl)
set_option maxRecDepth 100000 in
set_option maxHeartbeats 4000000 in
theorem em_R_refuses (d : Nat) (x1 : Int) (h : zH) : m_R_refuses (d + 1) x1 h = (if 0 ≤ x1 ∧ x1 < ((6 : Nat) : Int) then (if 0 ≤ x1 ∧ x1 < ((6 : Nat) : Int) then (zlt (zset h 441 x1 (w32 ((h 441 x1) + 1))) fun h1 => some ((.inl (-1)), h1)) else none) else none) := (zF_at zMT_252).trans ((zgo_eq (zrn_ext d)).trans rfl)
set_option maxRecDepth 100000 in
set_option maxHeartbeats 4000000 in
theorem em_R_status (d : Nat) (x1 : Int) (h : zH) : m_R_status (d + 1) x1 h = (zqi (m_R_is d x1 0 5 h) fun a2 h1 => (if a2 = 0 then some ((.inl (-1)), h1) else (if 0 ≤ x1 ∧ x1 < ((6 : Nat) : Int) then some ((.inl (h1 441 x1)), h1) else none))) := (zF_at zMT_253).trans ((zgo_eq (zrn_ext d)).trans rfl)
set_option maxRecDepth 100000 in
set_option maxHeartbeats 4000000 in
theorem em_R_bounded (d : Nat) (x0 : Int) (h : zH) : m_R_bounded (d + 1) x0 h = (if 0 < zlc x0 1000000 then some ((.inr (.inl 1000000)), h) else (if zlc x0 (-1000000) < 0 then some ((.inr (.inl (-1000000))), h) else some ((.inr (.inl x0)), h))) := (zF_at zMT_254).trans ((zgo_eq (zrn_ext d)).trans rfl)
set_option maxRecDepth 100000 in
set_option maxHeartbeats 4000000 in
theorem em_R_over (d : Nat) (x0 x2 : Int) (h : zH) : m_R_over (d + 1) x0 x2 h = (if zlc x2 0 = 0 then some ((.inr (.inl 0)), h) else (zdz x2 (zdz x2 (if zlc (Int.tmod x0 x2) 0 = 0 then some ((.inr (.inl (w64 (Int.tdiv x0 x2)))), h) else (if zlc x0 0 < 0 then (l_R_over_32 d x2 (w64 (Int.tdiv x0 x2)) 1 h) else (l_R_over_32 d x2 (w64 (Int.tdiv x0 x2)) 0 h)))))) := (zF_at zMT_255).trans ((zgo_eq (zrn_ext d)).trans rfl)
set_option maxRecDepth 100000 in
set_option maxHeartbeats 4000000 in
theorem el_R_over_32 (d : Nat) (x2 x4 s0 : Int) (h : zH) : l_R_over_32 d x2 x4 s0 h = (if zlc x2 0 < 0 then (l_R_over_43 d x4 1 s0 h) else (l_R_over_43 d x4 0 s0 h)) := (zgo_eq (zrn_ext d)).trans rfl
set_option maxRecDepth 100000 in
set_option maxHeartbeats 4000000 in
theorem el_R_over_43 (d : Nat) (x4 s0 s1 : Int) (h : zH) : l_R_over_43 d x4 s0 s1 h = (if s1 = s0 then some ((.inr (.inl x4)), h) else some ((.inr (.inl (w64 (x4 - 1)))), h)) := (zgo_eq (zrn_ext d)).trans rfl
set_option maxRecDepth 100000 in
set_option maxHeartbeats 4000000 in
theorem em_R_made (d : Nat) (x0 x1 x3 : Int) (h : zH) : m_R_made (d + 1) x0 x1 x3 h = (if x0 = 10 then (zql (m_R_bounded d (w64 (x1 + x3)) h) fun a10 h9 => some ((.inr (.inl a10)), h9)) else (if x0 = 11 then (zql (m_R_bounded d (w64 (x1 - x3)) h) fun a8 h7 => some ((.inr (.inl a8)), h7)) else (if x0 = 12 then (zql (m_R_bounded d (w64 (x1 * x3)) h) fun a6 h5 => some ((.inr (.inl a6)), h5)) else (if x0 = 13 then (zql (m_R_over d x1 x3 h) fun a4 h3 => some ((.inr (.inl a4)), h3)) else (if x0 = 14 then (if zlc x3 0 = 0 then some ((.inr (.inl 0)), h) else (zql (m_R_over d x1 x3 h) fun a2 h1 => some ((.inr (.inl (w64 (x1 - (w64 (x3 * a2)))))), h1))) else (if x0 = 15 then (if zlc x1 x3 < 0 then some ((.inr (.inl x1)), h) else some ((.inr (.inl x3)), h)) else (if x0 = 16 then (if 0 < zlc x1 x3 then some ((.inr (.inl x1)), h) else some ((.inr (.inl x3)), h)) else (if x0 = 17 then (if zlc x1 x3 < 0 then some ((.inr (.inl 1)), h) else some ((.inr (.inl 0)), h)) else (if x0 = 18 then (if 0 < zlc x1 x3 then some ((.inr (.inl 1)), h) else some ((.inr (.inl 0)), h)) else (if x0 = 19 then (if zlc x1 x3 = 0 then some ((.inr (.inl 1)), h) else some ((.inr (.inl 0)), h)) else (if x0 = 20 then some ((.inr (.inl (w64 (x1 * x3)))), h) else (if 0 < zlc (w64 (x1 + x3)) 0 then some ((.inr (.inl 1)), h) else some ((.inr (.inl 0)), h))))))))))))) := (zF_at zMT_256).trans ((zgo_eq (zrn_ext d)).trans rfl)
set_option maxRecDepth 100000 in
set_option maxHeartbeats 4000000 in
theorem em_R_reckons (d : Nat) (x1 x2 : Int) (h : zH) : m_R_reckons (d + 1) x1 x2 h = (l_R_reckons_14 d x2 0 (w32 ((w32 (1600 * (h 403 12))) + x1)) h) := (zF_at zMT_257).trans ((zgo_eq (zrn_ext d)).trans rfl)
set_option maxRecDepth 100000 in
set_option maxHeartbeats 4000000 in
theorem el_R_reckons_14 (d : Nat) (x2 x3 x4 : Int) (h : zH) : l_R_reckons_14 d x2 x3 x4 h = (if x4 < w32 ((w32 (1600 * (h 403 12))) + x2) then (if 0 ≤ x4 ∧ x4 < ((3200 : Nat) : Int) then (if 9 < h 433 x4 then (if h 433 x4 = 22 then (if 0 ≤ w32 (x3 - 1) ∧ w32 (x3 - 1) < ((1650 : Nat) : Int) then (if 0 ≤ w32 (x3 - 1) ∧ w32 (x3 - 1) < ((1650 : Nat) : Int) then (zlt (zset h 442 (w32 (x3 - 1)) (w64 (1 - (h 442 (w32 (x3 - 1)))))) fun h4 => (l_R_reckons_14 d x2 x3 (w32 (x4 + 1)) h4)) else none) else none) else (if 0 ≤ w32 ((w32 (x3 + (-1))) - 1) ∧ w32 ((w32 (x3 + (-1))) - 1) < ((1650 : Nat) : Int) then (if 0 ≤ w32 (x3 + (-1)) ∧ w32 (x3 + (-1)) < ((1650 : Nat) : Int) then (zql (m_R_made d (h 433 x4) (h 442 (w32 ((w32 (x3 + (-1))) - 1))) (h 442 (w32 (x3 + (-1)))) h) fun a2 h1 => (if 0 ≤ w32 ((w32 (x3 + (-1))) - 1) ∧ w32 ((w32 (x3 + (-1))) - 1) < ((1650 : Nat) : Int) then (zlt (zset h1 442 (w32 ((w32 (x3 + (-1))) - 1)) a2) fun h3 => (l_R_reckons_14 d x2 (w32 (x3 + (-1))) (w32 (x4 + 1)) h3)) else none)) else none) else none)) else (if h 433 x4 = 0 then (if 0 ≤ x4 ∧ x4 < ((3200 : Nat) : Int) then (if 0 ≤ x3 ∧ x3 < ((1650 : Nat) : Int) then (zlt (zset h 442 x3 (h 434 x4)) fun h7 => (l_R_reckons_14 d x2 (w32 (x3 + 1)) (w32 (x4 + 1)) h7)) else none) else none) else (if h 433 x4 = 9 then (if 0 ≤ x3 ∧ x3 < ((1650 : Nat) : Int) then (zlt (zset h 442 x3 1) fun h6 => (l_R_reckons_14 d x2 (w32 (x3 + 1)) (w32 (x4 + 1)) h6)) else none) else (if 0 ≤ h 433 x4 ∧ h 433 x4 < ((10 : Nat) : Int) then (if 0 ≤ x3 ∧ x3 < ((1650 : Nat) : Int) then (zlt (zset h 442 x3 (h 443 (h 433 x4))) fun h5 => (l_R_reckons_14 d x2 (w32 (x3 + 1)) (w32 (x4 + 1)) h5)) else none) else none)))) else none) else (if 0 ≤ 0 ∧ 0 < ((1650 : Nat) : Int) then some ((.inr (.inl (h 442 0))), h) else none)) := (zgo_eq (zrn_ext d)).trans rfl
set_option maxRecDepth 100000 in
set_option maxHeartbeats 4000000 in
theorem em_R_cells (d : Nat) (h : zH) : m_R_cells (d + 1) h = (if 0 ≤ h 403 12 ∧ h 403 12 < ((2 : Nat) : Int) then (if 0 ≤ h 403 12 ∧ h 403 12 < ((2 : Nat) : Int) then some ((.inl (w32 ((h 405 (h 403 12)) * (h 406 (h 403 12))))), h) else none) else none) := (zF_at zMT_258).trans ((zgo_eq (zrn_ext d)).trans rfl)
set_option maxRecDepth 100000 in
set_option maxHeartbeats 4000000 in
theorem em_R_isCell (d : Nat) (x1 : Int) (h : zH) : m_R_isCell (d + 1) x1 h = (if x1 < 0 then some ((.inl 0), h) else (zqi (m_R_cells d h) fun a2 h1 => (if x1 < a2 then some ((.inl 1), h1) else some ((.inl 0), h1)))) := (zF_at zMT_259).trans ((zgo_eq (zrn_ext d)).trans rfl)
set_option maxRecDepth 100000 in
set_option maxHeartbeats 4000000 in
theorem em_R_isStone (d : Nat) (x1 : Int) (h : zH) : m_R_isStone (d + 1) x1 h = (if x1 < 0 then some ((.inl 0), h) else (if 0 ≤ h 403 12 ∧ h 403 12 < ((2 : Nat) : Int) then (if x1 < h 415 (h 403 12) then some ((.inl 1), h) else some ((.inl 0), h)) else none)) := (zF_at zMT_260).trans ((zgo_eq (zrn_ext d)).trans rfl)
set_option maxRecDepth 100000 in
set_option maxHeartbeats 4000000 in
theorem em_R_isHouse (d : Nat) (x1 : Int) (h : zH) : m_R_isHouse (d + 1) x1 h = (if x1 < 0 then some ((.inl 0), h) else (if 0 ≤ h 403 12 ∧ h 403 12 < ((2 : Nat) : Int) then (if x1 < h 420 (h 403 12) then some ((.inl 1), h) else some ((.inl 0), h)) else none)) := (zF_at zMT_261).trans ((zgo_eq (zrn_ext d)).trans rfl)
set_option maxRecDepth 100000 in
set_option maxHeartbeats 4000000 in
theorem em_R_isOwner (d : Nat) (x1 : Int) (h : zH) : m_R_isOwner (d + 1) x1 h = (if x1 < 0 then some ((.inl 0), h) else (if 0 ≤ h 403 12 ∧ h 403 12 < ((2 : Nat) : Int) then (if x1 < h 413 (h 403 12) then some ((.inl 1), h) else some ((.inl 0), h)) else none)) := (zF_at zMT_262).trans ((zgo_eq (zrn_ext d)).trans rfl)
set_option maxRecDepth 100000 in
set_option maxHeartbeats 4000000 in
theorem em_R_isThere (d : Nat) (x1 : Int) (h : zH) : m_R_isThere (d + 1) x1 h = (zqi (m_R_isStone d x1 h) fun a2 h1 => (if a2 = 0 then some ((.inl 0), h1) else (if 0 ≤ x1 ∧ x1 < ((350 : Nat) : Int) then (if h1 444 x1 = (-1) then some ((.inl 0), h1) else some ((.inl 1), h1)) else none))) := (zF_at zMT_263).trans ((zgo_eq (zrn_ext d)).trans rfl)
